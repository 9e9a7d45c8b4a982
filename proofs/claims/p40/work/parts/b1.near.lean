/-! the distance of a point from a polygon: an edge, or a corner, that is nearest -/
section NE
variable {n : Nat} {V : Nat → Z2} {T : Z2 → Prop} {p : Z2}
def sdE (V : Nat → Z2) (p : Z2) (k : Nat) : Int := cr (ed V k) (zs p (V k))
def alE (V : Nat → Z2) (p : Z2) (k : Nat) : Int := dt (zs p (V k)) (ed V k)
def sqE (V : Nat → Z2) (k : Nat) : Int := dt (ed V k) (ed V k)
/-- an edge from whose right side the foot falls into it, or a corner from which all lies off -/
def NrG (V : Nat → Z2) (p : Z2) : Prop := (∃ k, sdE V p k < 0 ∧ 0 < alE V p k ∧ alE V p k < sqE V k) ∨ ∃ k, ∀ v, 0 ≤ dt (zs (V k) p) (zs (V v) (V k))
theorem zs_neg (u v : Z2) : zs (0, 0) (zs u v) = zs v u := by unfold zs; apply Prod.ext <;> dsimp only <;> omega
theorem dt_neg (w v : Z2) : dt (zs (0, 0) w) v = -dt w v := by unfold dt zs; grind
theorem Cvx.off (H : Cvx n V) {j : Nat} (h1 : dt (zs (V (j + 1)) p) (ed V j) ≤ 0) (h2 : 0 ≤ dt (zs (V (j + 1)) p) (ed V (j + 1))) : ∀ v, 0 ≤ dt (zs (V (j + 1)) p) (zs (V v) (V (j + 1))) := fun v => by
  have t := H.top (k := j) (d := zs (0, 0) (zs (V (j + 1)) p)) (by rw [dt_neg]; omega) (by rw [dt_neg]; omega) v
  rw [dt_neg, dt_neg] at t
  rw [dt_zs]; omega
theorem sd_next (j : Nat) : sdE V p j = -cr (ed V j) (zs (V (j + 1)) p) := by unfold sdE ed cr zs; grind
theorem sd_at (j : Nat) : sdE V p j = -cr (ed V j) (zs (V j) p) := by unfold sdE ed cr zs; grind
theorem al_at (j : Nat) : alE V p j = -dt (zs (V j) p) (ed V j) := by unfold alE ed dt zs; grind
theorem al_next (j : Nat) : alE V p j = sqE V j - dt (zs (V (j + 1)) p) (ed V j) := by unfold alE sqE ed dt zs; grind
theorem nn_next (j : Nat) : dt (zs (V (j + 1)) p) (zs (V (j + 1)) p) = dt (zs (V j) p) (zs (V j) p) + 2 * dt (zs (V j) p) (ed V j) + sqE V j := by unfold sqE ed dt zs; grind
theorem Cvx.ed_per (H : Cvx n V) (k : Nat) : ed V (k + n) = ed V k := by
  unfold ed
  rw [show k + n + 1 = k + 1 + n by omega, H.2.1, H.2.1]
theorem Cvx.sq_pos (H : Cvx n V) (k : Nat) : 0 < sqE V k := (par_self (by
  intro q
  have t := H.turn k
  rw [q] at t
  have : cr (0, 0) (ed V (k + 1)) = 0 := by unfold cr; simp
  omega)).2
theorem near_down (H : Cvx n V) : ∀ m k, (dt (zs (V k) p) (zs (V k) p)).toNat ≤ m → sdE V p k < 0 → alE V p k ≤ 0 → NrG V p := fun m => by
  induction m with
  | zero =>
    intro k hm hs ha
    exfalso
    have nn := dt_sq_nonneg (zs (V k) p)
    have z : dt (zs (V k) p) (zs (V k) p) = 0 := by omega
    by_cases e : zs (V k) p = (0, 0)
    · rw [sd_at, e] at hs
      have : cr (ed V k) (0, 0) = 0 := by unfold cr; simp
      omega
    · have := (par_self e).2
      omega
  | succ m ih =>
    intro k hm hs ha
    have hn := H.1
    obtain ⟨j, hj⟩ : ∃ j, k + n = j + 1 := ⟨k + n - 1, by omega⟩
    have eV : V (j + 1) = V k := by rw [← hj, H.2.1]
    have eE : ed V (j + 1) = ed V k := by rw [← hj, H.ed_per]
    have hs' : sdE V p (j + 1) < 0 := by unfold sdE at *; rw [eV, eE]; exact hs
    have ha' : alE V p (j + 1) ≤ 0 := by unfold alE at *; rw [eV, eE]; exact ha
    rw [← eV] at hm
    rw [sd_at] at hs'
    rw [al_at] at ha'
    by_cases c : dt (zs (V (j + 1)) p) (ed V j) ≤ 0
    · exact Or.inr ⟨j + 1, H.off c (by omega)⟩
    · have id := cone_dd (ed V j) (ed V (j + 1)) (zs (V (j + 1)) p)
      have t := H.turn j
      have nz : 0 < dt (zs (V (j + 1)) p) (zs (V (j + 1)) p) := (par_self (fun q => by
        rw [q] at hs'
        have : cr (ed V (j + 1)) (0, 0) = 0 := by unfold cr; simp
        omega)).2
      have m1 := Int.mul_pos t nz
      have m2 := Int.mul_pos (show 0 < cr (ed V (j + 1)) (zs (V (j + 1)) p) by omega) (show 0 < dt (zs (V (j + 1)) p) (ed V j) by omega)
      have m3 : 0 < dt (zs (V (j + 1)) p) (ed V (j + 1)) * cr (ed V j) (zs (V (j + 1)) p) := by
        rw [Int.mul_comm (dt (zs (V (j + 1)) p) (ed V (j + 1)))]; omega
      have m4 : 0 < cr (ed V j) (zs (V (j + 1)) p) := by
        by_cases z : dt (zs (V (j + 1)) p) (ed V (j + 1)) = 0
        · rw [z, Int.zero_mul] at m3; omega
        · exact pos_of_mul (by omega) m3
      have sj : sdE V p j < 0 := by rw [sd_next]; omega
      have aj := al_next (V := V) (p := p) j
      by_cases c2 : 0 < alE V p j
      · exact Or.inl ⟨j, sj, c2, by omega⟩
      · have nx := nn_next (V := V) (p := p) j
        have sq := H.sq_pos j
        have aj2 := al_at (V := V) (p := p) j
        have nn := dt_sq_nonneg (zs (V j) p)
        exact ih j (by omega) sj (by omega)
theorem near_up (H : Cvx n V) : ∀ m k, (dt (zs (V (k + 1)) p) (zs (V (k + 1)) p)).toNat ≤ m → sdE V p k < 0 → sqE V k ≤ alE V p k → NrG V p := fun m => by
  induction m with
  | zero =>
    intro k hm hs ha
    exfalso
    have nn := dt_sq_nonneg (zs (V (k + 1)) p)
    have z : dt (zs (V (k + 1)) p) (zs (V (k + 1)) p) = 0 := by omega
    by_cases e : zs (V (k + 1)) p = (0, 0)
    · rw [sd_next, e] at hs
      have : cr (ed V k) (0, 0) = 0 := by unfold cr; simp
      omega
    · have := (par_self e).2
      omega
  | succ m ih =>
    intro k hm hs ha
    rw [sd_next] at hs
    have an := al_next (V := V) (p := p) k
    by_cases c : 0 ≤ dt (zs (V (k + 1)) p) (ed V (k + 1))
    · exact Or.inr ⟨k + 1, H.off (by omega) c⟩
    · have id := cone_dd (ed V k) (ed V (k + 1)) (zs (V (k + 1)) p)
      have t := H.turn k
      have nz : 0 < dt (zs (V (k + 1)) p) (zs (V (k + 1)) p) := (par_self (fun q => by
        rw [q] at hs
        have : cr (ed V k) (0, 0) = 0 := by unfold cr; simp
        omega)).2
      have m1 := Int.mul_pos t nz
      have m2 := Int.mul_neg_of_pos_of_neg (show 0 < cr (ed V k) (zs (V (k + 1)) p) by omega) (show dt (zs (V (k + 1)) p) (ed V (k + 1)) < 0 by omega)
      have m3 : cr (ed V (k + 1)) (zs (V (k + 1)) p) * dt (zs (V (k + 1)) p) (ed V k) < 0 := by omega
      have m4 : 0 < cr (ed V (k + 1)) (zs (V (k + 1)) p) := by
        rw [Int.mul_comm] at m3
        by_cases z : dt (zs (V (k + 1)) p) (ed V k) = 0
        · rw [z, Int.zero_mul] at m3; omega
        · exact pos_of_mul' (by omega) m3
      have sj : sdE V p (k + 1) < 0 := by rw [sd_at]; omega
      have aj := al_at (V := V) (p := p) (k + 1)
      by_cases c2 : alE V p (k + 1) < sqE V (k + 1)
      · exact Or.inl ⟨k + 1, sj, by omega, c2⟩
      · have nx := nn_next (V := V) (p := p) (k + 1)
        have sq := H.sq_pos (k + 1)
        have nn := dt_sq_nonneg (zs (V (k + 1 + 1)) p)
        exact ih (k + 1) (by omega) sj (by omega)
theorem near_one (H : Cvx n V) {k : Nat} (hs : sdE V p k < 0) : NrG V p := by
  by_cases c1 : alE V p k ≤ 0
  · exact near_down H _ k (Nat.le_refl _) hs c1
  · by_cases c2 : alE V p k < sqE V k
    · exact Or.inl ⟨k, hs, by omega, c2⟩
    · exact near_up H _ k (Nat.le_refl _) hs (by omega)
/-- what the class looks at -/
def Cc (V : Nat → Z2) (p : Z2) (k : Nat) (N D : Int) : Prop := (N = dt (zs p (V k)) (zs p (V k)) ∧ D = 1) ∨ (0 < alE V p k ∧ alE V p k < sqE V k ∧ N = sdE V p k * sdE V p k ∧ D = sqE V k)
/-- a line between the point and the polygon, as far from the point as the candidate says -/
def Sep (T : Z2 → Prop) (p : Z2) (N D : Int) : Prop := ∃ (d : Z2) (M : Int), 0 < M ∧ 0 < dt d d ∧ N * dt d d = M * M * D ∧ ∀ t, T t → M ≤ dt d (zs t p)
theorem near_sep (H : Hul n V T) {k : Nat} (hs : sdE V p k < 0) : ∃ j N D, Cc V p j N D ∧ 0 < D ∧ Sep T p N D := by
  rcases near_one H.1 hs with ⟨j, h1, h2, h3⟩ | ⟨j, hj⟩
  · have e1 : ∀ w, dt (-(ed V j).2, (ed V j).1) w = cr (ed V j) w := fun w => by unfold dt cr; grind
    have e2 : dt (-(ed V j).2, (ed V j).1) (-(ed V j).2, (ed V j).1) = sqE V j := by unfold sqE dt; grind
    refine ⟨j, _, _, Or.inr ⟨h2, h3, rfl, rfl⟩, H.1.sq_pos j, (-(ed V j).2, (ed V j).1), -sdE V p j, by omega, by rw [e2]; exact H.1.sq_pos j, by rw [e2]; grind, fun t ht => ?_⟩
    rw [e1]
    have w := H.2.2 j t ht
    have : cr (ed V j) (zs t p) = cr (ed V j) (zs t (V j)) - sdE V p j := by unfold sdE cr zs; grind
    omega
  · have nz : 0 < dt (zs (V j) p) (zs (V j) p) := (par_self (fun q => by
      have e : V j = p := by
        have a := congrArg Prod.fst q
        have b := congrArg Prod.snd q
        unfold zs at a b
        dsimp only at a b
        exact Prod.ext (by omega) (by omega)
      have := H.1.weak k j
      rw [e] at this
      unfold sdE at hs; omega)).2
    refine ⟨j, dt (zs p (V j)) (zs p (V j)), 1, Or.inl ⟨rfl, rfl⟩, by omega, zs (V j) p, dt (zs (V j) p) (zs (V j) p), nz, nz, ?_, fun t ht => ?_⟩
    · have : dt (zs p (V j)) (zs p (V j)) = dt (zs (V j) p) (zs (V j) p) := by unfold dt zs; grind
      rw [this]; omega
    · obtain ⟨v, hv⟩ := H.1.inner0 (p := t) (fun e => H.2.2 e t ht) (zs (0, 0) (zs (V j) p))
      rw [dt_neg, dt_neg] at hv
      have := hj v
      rw [dt_zs] at this
      rw [dt_zs (zs (V j) p) t p, dt_zs (zs (V j) p) (V j) p]
      omega
theorem sq_le_sq {a b : Int} (h1 : 0 ≤ a) (h2 : a ≤ b) : a * a ≤ b * b := Int.mul_le_mul h2 h2 h1 (by omega)
theorem cauchy (d w : Z2) : dt d w * dt d w ≤ dt d d * dt w w := by
  have e : dt d d * dt w w = dt d w * dt d w + cr d w * cr d w := by unfold dt cr; grind
  have s : 0 ≤ cr d w * cr d w := by
    rcases Int.le_total 0 (cr d w) with h | h
    · exact Int.mul_nonneg h h
    · exact Int.mul_nonneg_of_nonpos_of_nonpos h h
  omega
theorem lagr (u w : Z2) : dt u u * dt w w = dt u w * dt u w + cr u w * cr u w := by unfold dt cr; grind
theorem le_cancel {a b c : Int} (h : 0 < c) (x : c * a ≤ c * b) : a ≤ b := by
  by_cases q : a ≤ b
  · exact q
  · have := Int.mul_lt_mul_of_pos_left (show b < a by omega) h; omega
/-- what the reference looks at: from a sum a step along an edge of one of the two -/
def Rc (p t w : Z2) (N D : Int) : Prop := (0 < -dt (zs t p) w ∧ -dt (zs t p) w < dt w w ∧ N = cr (zs t p) w * cr (zs t p) w ∧ D = dt w w) ∨ (¬ (0 < -dt (zs t p) w ∧ -dt (zs t p) w < dt w w) ∧ N = dt (zs t p) (zs t p) ∧ D = 1)
theorem sep_le {N D N' D' : Int} {t w : Z2} (S : Sep T p N D) (hD : 0 < D) (h1 : T t) (h2 : T (za t w)) (R : Rc p t w N' D') : N * D' ≤ N' * D := by
  obtain ⟨d, M, m0, d0, e, s⟩ := S
  have s1 := s t h1
  have s2 := s _ h2
  rcases R with ⟨r1, r2, rfl, rfl⟩ | ⟨-, rfl, rfl⟩
  · have f2 : dt d (zs (za t w) p) = dt d (zs t p) + dt d w := by unfold dt zs za; grind
    rw [f2] at s2
    generalize zs t p = u at *
    -- x = ww u - uw w
    obtain ⟨x, hx⟩ : ∃ x : Z2, x = (dt w w * u.1 - dt u w * w.1, dt w w * u.2 - dt u w * w.2) := ⟨_, rfl⟩
    have x1 : dt d x = dt w w * dt d u - dt u w * dt d w := by rw [hx]; unfold dt; grind
    have x2 : dt x x = dt w w * (cr u w * cr u w) := by rw [hx]; unfold dt cr; grind
    have c := cauchy d x
    have lo : dt w w * M ≤ dt d x := by
      have p1 := Int.mul_le_mul_of_nonneg_left s1 (show 0 ≤ dt w w - (-dt u w) by omega)
      have p2 := Int.mul_le_mul_of_nonneg_left s2 (show 0 ≤ -dt u w by omega)
      have q1 : (dt w w - (-dt u w)) * M = dt w w * M + dt u w * M := by grind
      have q2 : (dt w w - (-dt u w)) * dt d u = dt w w * dt d u + dt u w * dt d u := by grind
      have q3 : -dt u w * M = -(dt u w * M) := by grind
      have q4 : -dt u w * (dt d u + dt d w) = -(dt u w * dt d u) - dt u w * dt d w := by grind
      rw [q1, q2] at p1; rw [q3, q4] at p2
      omega
    have wp : 0 < dt w w := by omega
    have sq := sq_le_sq (Int.mul_nonneg (Int.le_of_lt wp) (Int.le_of_lt m0)) lo
    rw [x2] at c
    have t1 : dt w w * (dt w w * (M * M)) ≤ dt w w * (dt d d * (cr u w * cr u w)) := by
      have g1 : dt w w * M * (dt w w * M) = dt w w * (dt w w * (M * M)) := by grind
      have g2 : dt d d * (dt w w * (cr u w * cr u w)) = dt w w * (dt d d * (cr u w * cr u w)) := by grind
      omega
    have t2 := le_cancel wp t1
    have t3 := Int.mul_le_mul_of_nonneg_right t2 (Int.le_of_lt hD)
    refine le_cancel d0 ?_
    have g3 : dt d d * (N * dt w w) = dt w w * (M * M) * D := by
      rw [show dt d d * (N * dt w w) = (N * dt d d) * dt w w by grind, e]; grind
    have g4 : dt d d * (cr u w * cr u w * D) = dt d d * (cr u w * cr u w) * D := by grind
    omega
  · have c := cauchy d (zs t p)
    have sq := sq_le_sq (Int.le_of_lt m0) s1
    have t3 := Int.mul_le_mul_of_nonneg_right (Int.le_trans sq c) (Int.le_of_lt hD)
    refine le_cancel d0 ?_
    have g3 : dt d d * (N * 1) = M * M * D := by rw [← e]; grind
    have g4 : dt d d * (dt (zs t p) (zs t p) * D) = dt d d * dt (zs t p) (zs t p) * D := by grind
    omega
end NE
