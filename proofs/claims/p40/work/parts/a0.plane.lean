/-! points of the plane with integer coordinates -/
abbrev Z2 : Type := Int × Int
def zs (u v : Z2) : Z2 := (u.1 - v.1, u.2 - v.2)
def za (u v : Z2) : Z2 := (u.1 + v.1, u.2 + v.2)
def cr (u v : Z2) : Int := u.1 * v.2 - u.2 * v.1
def dt (u v : Z2) : Int := u.1 * v.1 + u.2 * v.2
theorem cone_dt (e f w n : Z2) : cr e f * dt n w = cr e w * dt n f - cr f w * dt n e := by
  unfold cr dt; grind
theorem cone_cr (e f w g : Z2) : cr e f * cr g w = cr e w * cr g f - cr f w * cr g e := by
  unfold cr; grind
theorem cone_dd (e f w : Z2) : cr e f * dt w w = cr e w * dt w f - cr f w * dt w e := cone_dt e f w w
theorem pl3 (u v w g : Z2) : dt g u * cr v w + dt g v * cr w u + dt g w * cr u v = 0 := by
  unfold cr dt; grind
theorem cr_self (u : Z2) : cr u u = 0 := by unfold cr; grind
theorem cr_swap (u v : Z2) : cr u v = -cr v u := by unfold cr; grind
theorem cr_zs (g u v : Z2) : cr g (zs u v) = cr g u - cr g v := by unfold cr zs; grind
theorem dt_zs (g u v : Z2) : dt g (zs u v) = dt g u - dt g v := by unfold dt zs; grind
theorem cr_za (g u v : Z2) : cr g (za u v) = cr g u + cr g v := by unfold cr za; grind
theorem dt_za (g u v : Z2) : dt g (za u v) = dt g u + dt g v := by unfold dt za; grind
theorem dt_sq_nonneg (w : Z2) : 0 ≤ dt w w := by
  unfold dt
  have h1 : 0 ≤ w.1 * w.1 := by
    rcases Int.le_total 0 w.1 with h | h
    · exact Int.mul_nonneg h h
    · exact Int.mul_nonneg_of_nonpos_of_nonpos h h
  have h2 : 0 ≤ w.2 * w.2 := by
    rcases Int.le_total 0 w.2 with h | h
    · exact Int.mul_nonneg h h
    · exact Int.mul_nonneg_of_nonpos_of_nonpos h h
  omega
/-- an edge -/
def ed (f : Nat → Z2) (e : Nat) : Z2 := zs (f (e + 1)) (f e)
/-- a strictly convex polygon, its points counted round and round -/
def Cvx (n : Nat) (f : Nat → Z2) : Prop := 3 ≤ n ∧ (∀ k, f (k + n) = f k) ∧ ∀ e v, e + 2 ≤ v → v < e + n → 0 < cr (ed f e) (zs (f v) (f e))
section CV
variable {n : Nat} {f : Nat → Z2}
theorem Cvx.per (H : Cvx n f) : ∀ q k, f (k + n * q) = f k := fun q => by
  induction q with
  | zero => intro k; rfl
  | succ q ih => intro k; rw [Nat.mul_succ, ← Nat.add_assoc, H.2.1, ih]
theorem Cvx.mod (H : Cvx n f) (k : Nat) : f (k % n) = f k := by
  have h := H.per (k / n) (k % n)
  rw [Nat.mod_add_div] at h
  exact h.symm
theorem Cvx.shift (H : Cvx n f) (s : Nat) : Cvx n (fun k => f (s + k)) := by
  refine ⟨H.1, fun k => by show f (s + (k + n)) = f (s + k); rw [← Nat.add_assoc]; exact H.2.1 _, fun e v h1 h2 => ?_⟩
  have := H.2.2 (s + e) (s + v) (by omega) (by omega)
  exact this
/-- each point lies at least weakly left of each edge -/
theorem Cvx.weak (H : Cvx n f) (e v : Nat) : 0 ≤ cr (ed f e) (zs (f v) (f e)) := by
  have hn := H.1
  -- move v into e .. e + n - 1
  obtain ⟨u, hu1, hu2, hu3⟩ : ∃ u, e ≤ u ∧ u < e + n ∧ f u = f v := by
    refine ⟨e + (v + n * e - e) % n, by omega, by have := Nat.mod_lt (v + n * e - e) (show n > 0 by omega); omega, ?_⟩
    have h1 := (H.shift e).mod (v + n * e - e)
    have h2 : f (e + (v + n * e - e) % n) = f (e + (v + n * e - e)) := h1
    have h3 : e ≤ v + n * e := by
      have := Nat.mul_le_mul_right e (show 1 ≤ n by omega)
      omega
    rw [h2, show e + (v + n * e - e) = v + n * e by omega, H.per]
  rw [← hu3]
  by_cases c : u = e
  · subst c
    have : cr (ed f u) (zs (f u) (f u)) = 0 := by unfold cr zs; grind
    omega
  · by_cases c2 : u = e + 1
    · subst c2
      have : cr (ed f e) (zs (f (e + 1)) (f e)) = 0 := cr_self _
      omega
    · exact Int.le_of_lt (H.2.2 e u (by omega) hu2)
theorem Cvx.turn (H : Cvx n f) (e : Nat) : 0 < cr (ed f e) (ed f (e + 1)) := by
  have h := H.2.2 e (e + 2) (by omega) (by have := H.1; omega)
  have : cr (ed f e) (ed f (e + 1)) = cr (ed f e) (zs (f (e + 2)) (f e)) := by
    show cr (zs (f (e + 1)) (f e)) (zs (f (e + 2)) (f (e + 1))) = cr (zs (f (e + 1)) (f e)) (zs (f (e + 2)) (f e))
    unfold cr zs; grind
  omega
theorem Cvx.left2 (H : Cvx n f) (e v : Nat) : 0 ≤ cr (ed f e) (zs (f v) (f (e + 1))) := by
  have h := H.weak e v
  have : cr (ed f e) (zs (f v) (f (e + 1))) = cr (ed f e) (zs (f v) (f e)) := by unfold ed cr zs; grind
  omega
theorem le_of_mul {a b : Int} (ha : 0 < a) (h : a * b ≤ 0) : b ≤ 0 := by
  by_cases c : 0 < b
  · have := Int.mul_pos ha c; omega
  · omega
/-- a point between two edges that a direction does not prefer is the farthest in it -/
theorem Cvx.top (H : Cvx n f) {k : Nat} {d : Z2} (h1 : 0 ≤ dt d (ed f k)) (h2 : dt d (ed f (k + 1)) ≤ 0) (v : Nat) : dt d (f v) ≤ dt d (f (k + 1)) := by
  have a := H.left2 k v
  have b := H.weak (k + 1) v
  have c := cone_dt (ed f k) (ed f (k + 1)) (zs (f v) (f (k + 1))) d
  have t := H.turn k
  have m1 : cr (ed f k) (zs (f v) (f (k + 1))) * dt d (ed f (k + 1)) ≤ 0 := Int.mul_nonpos_of_nonneg_of_nonpos a h2
  have m2 : 0 ≤ cr (ed f (k + 1)) (zs (f v) (f (k + 1))) * dt d (ed f k) := Int.mul_nonneg b h1
  have := le_of_mul t (by omega : cr (ed f k) (ed f (k + 1)) * dt d (zs (f v) (f (k + 1))) ≤ 0)
  rw [dt_zs] at this
  omega
theorem arg_max (g : Nat → Int) : ∀ m, 0 < m → ∃ v, v < m ∧ ∀ u, u < m → g u ≤ g v := fun m => by
  induction m with
  | zero => intro h; omega
  | succ m ih =>
    intro _
    by_cases c : m = 0
    · subst c; exact ⟨0, by omega, fun u hu => by have : u = 0 := by omega
                                                  subst this; omega⟩
    · obtain ⟨v, h1, h2⟩ := ih (by omega)
      by_cases c2 : g v ≤ g m
      · exact ⟨m, by omega, fun u hu => by
          by_cases c3 : u = m
          · subst c3; omega
          · have := h2 u (by omega); omega⟩
      · exact ⟨v, by omega, fun u hu => by
          by_cases c3 : u = m
          · subst c3; omega
          · exact h2 u (by omega)⟩
theorem Cvx.max (H : Cvx n f) (d : Z2) : ∃ k, ∀ v, dt d (f v) ≤ dt d (f (k + 1)) := by
  obtain ⟨v, h1, h2⟩ := arg_max (fun u => dt d (f u)) n (by have := H.1; omega)
  have hn := H.1
  refine ⟨v + n - 1, fun u => ?_⟩
  rw [show v + n - 1 + 1 = v + n by omega, H.2.1, ← H.mod u]
  exact h2 _ (Nat.mod_lt _ (by omega))
/-- a point strictly left of every edge lies below the farthest point in every direction -/
theorem Cvx.inner (H : Cvx n f) {p : Z2} (hp : ∀ e, 0 < cr (ed f e) (zs p (f e))) {d : Z2} (hd : d ≠ (0, 0)) : ∃ v, dt d p < dt d (f v) := by
  obtain ⟨k, hk⟩ := H.max d
  refine ⟨k + 1, ?_⟩
  have t := H.turn k
  have a := hp k
  have b := hp (k + 1)
  have a' : 0 < cr (ed f k) (zs p (f (k + 1))) := by
    have : cr (ed f k) (zs p (f (k + 1))) = cr (ed f k) (zs p (f k)) := by unfold ed cr zs; grind
    omega
  have e1 : 0 ≤ dt d (ed f k) := by have := hk k; show 0 ≤ dt d (zs (f (k + 1)) (f k)); rw [dt_zs]; omega
  have e2 : dt d (ed f (k + 1)) ≤ 0 := by have := hk (k + 2); show dt d (zs (f (k + 2)) (f (k + 1))) ≤ 0; rw [dt_zs]; omega
  have c := cone_dt (ed f k) (ed f (k + 1)) (zs p (f (k + 1))) d
  have m1 : cr (ed f k) (zs p (f (k + 1))) * dt d (ed f (k + 1)) ≤ 0 := Int.mul_nonpos_of_nonneg_of_nonpos (by omega) e2
  have m2 : 0 ≤ cr (ed f (k + 1)) (zs p (f (k + 1))) * dt d (ed f k) := Int.mul_nonneg (by omega) e1
  have le := le_of_mul t (by omega : cr (ed f k) (ed f (k + 1)) * dt d (zs p (f (k + 1))) ≤ 0)
  rw [dt_zs] at le
  by_cases z : dt d p = dt d (f (k + 1))
  · exfalso
    have z0 : dt d (zs p (f (k + 1))) = 0 := by rw [dt_zs]; omega
    rw [z0, Int.mul_zero] at c
    have n1 : cr (ed f k) (zs p (f (k + 1))) * dt d (ed f (k + 1)) = 0 := by omega
    have n2 : cr (ed f (k + 1)) (zs p (f (k + 1))) * dt d (ed f k) = 0 := by omega
    have p1 : dt d (ed f (k + 1)) = 0 := (Int.mul_eq_zero.mp n1).resolve_left (by omega)
    have p2 : dt d (ed f k) = 0 := (Int.mul_eq_zero.mp n2).resolve_left (by omega)
    have q1 : cr (ed f k) (ed f (k + 1)) * d.1 = dt d (ed f k) * (ed f (k + 1)).2 - dt d (ed f (k + 1)) * (ed f k).2 := by unfold cr dt; grind
    have q2 : cr (ed f k) (ed f (k + 1)) * d.2 = dt d (ed f (k + 1)) * (ed f k).1 - dt d (ed f k) * (ed f (k + 1)).1 := by unfold cr dt; grind
    rw [p1, p2, Int.zero_mul, Int.zero_mul] at q1 q2
    have r1 : d.1 = 0 := (Int.mul_eq_zero.mp (show cr (ed f k) (ed f (k + 1)) * d.1 = 0 by omega)).resolve_left (by omega)
    have r2 : d.2 = 0 := (Int.mul_eq_zero.mp (show cr (ed f k) (ed f (k + 1)) * d.2 = 0 by omega)).resolve_left (by omega)
    exact hd (Prod.ext r1 r2)
  · omega
end CV
