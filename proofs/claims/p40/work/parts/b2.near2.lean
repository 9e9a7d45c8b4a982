/-! the merged polygon's candidates are reached by those of the two polygons -/
def Mrg (V f g : Nat → Z2) : Prop := ∀ k, ∃ i j, V k = za (f i) (g j) ∧ (ed V k = ed f i ∨ ed V k = ed g j ∨ ed V k = za (ed f i) (ed g j) ∧ cr (ed f i) (ed g j) = 0 ∧ 0 < dt (ed f i) (ed g j))
section MR
variable {l : Z2} {n m K : Nat} {f g : Nat → Z2}
theorem same_half {u v : Z2} (h : cr u v = 0) (s : 0 < dt l u ∧ 0 < dt l v ∨ dt l u < 0 ∧ dt l v < 0) : 0 < dt u v := by
  have e : dt l u * dt u v = dt l v * dt u u + cr u v * cr l u := by unfold dt cr; grind
  rw [h, Int.zero_mul, Int.add_zero] at e
  have nz : 0 < dt u u := (par_self (fun q => by
    rw [q] at s
    have : dt l (0, 0) = 0 := by unfold dt; simp
    omega)).2
  rcases s with s | s
  · have := Int.mul_pos s.2 nz
    exact pos_of_mul s.1 (by omega)
  · have := Int.mul_neg_of_neg_of_pos s.2 nz
    exact pos_of_mul' s.1 (by omega)
theorem mV_mrg (F : Low l n f) (G : Low l m g) (hK : mSt n m f g K = (n, m)) (hgo : ∀ k, k < K → mGo n m (mSt n m f g k)) : Mrg (mV n m f g K) f g := fun k => by
  have h3 := (merge_rnd F G hK hgo).three
  have hlt := Nat.mod_lt k (show K > 0 by omega)
  have M := st_MI F G (k % K) fun j hj => hgo j (by omega)
  have go := hgo _ hlt
  have ek : ed (mV n m f g K) k = mE n m f g (mSt n m f g (k % K)) := by
    rw [← mV_ed F G hK h3 hlt]
    unfold ed mV
    rw [Nat.mod_mod, Nat.mod_add_mod]
  refine ⟨(mSt n m f g (k % K)).1, (mSt n m f g (k % K)).2, rfl, ?_⟩
  rw [ek]
  rcases mE_is F G (i := (mSt n m f g (k % K)).1) (j := (mSt n m f g (k % K)).2) M go with ⟨-, e, -⟩ | ⟨-, e, -⟩ | ⟨-, -, e, -, z, s⟩
  · exact Or.inl e
  · exact Or.inr (Or.inl e)
  · exact Or.inr (Or.inr ⟨e, z, same_half z s⟩)
theorem Par.sum {u v : Z2} (z : cr u v = 0) (s : 0 < dt u v) : Par u (za u v) ∧ Par v (za u v) := by
  have nu : 0 ≤ dt u u := dt_sq_nonneg u
  have nv : 0 ≤ dt v v := dt_sq_nonneg v
  have e1 : cr u (za u v) = cr u v := by unfold cr za; grind
  have e2 : cr v (za u v) = -cr u v := by unfold cr za; grind
  have e3 : dt u (za u v) = dt u u + dt u v := dt_za _ _ _
  have e4 : dt v (za u v) = dt v v + dt u v := by unfold dt za; grind
  exact ⟨⟨by omega, by omega⟩, by omega, by omega⟩
theorem Mrg.dir {V : Nat → Z2} (M : Mrg V f g) (N : Z2 → Prop) (h0 : ∀ c, N c → c ≠ (0, 0)) (hf : ∀ i, N (ed f i)) (hg : ∀ j, N (ed g j)) : Dir V N := by
  refine ⟨h0, fun k => ?_⟩
  obtain ⟨i, j, -, e | e | ⟨e, z, s⟩⟩ := M k
  · exact ⟨_, hf i, by rw [e]; exact par_self (h0 _ (hf i))⟩
  · exact ⟨_, hg j, by rw [e]; exact par_self (h0 _ (hg j))⟩
  · exact ⟨_, hf i, by rw [e]; exact (Par.sum z s).1⟩
/-- a reference's candidate -/
def RcS (f g : Nat → Z2) (p : Z2) (N D : Int) : Prop := ∃ i j w, (w = ed f i ∨ w = ed g j) ∧ Rc p (za (f i) (g j)) w N D
theorem rc_low {p t w : Z2} (hw : 0 < dt w w) (h1 : 0 ≤ -dt (zs t p) w) (h2 : -dt (zs t p) w < dt w w) : ∃ N D, Rc p t w N D ∧ 0 < D ∧ N * dt w w = cr (zs t p) w * cr (zs t p) w * D := by
  by_cases c : 0 < -dt (zs t p) w
  · exact ⟨_, _, Or.inl ⟨c, h2, rfl, rfl⟩, hw, rfl⟩
  · have z : dt (zs t p) w = 0 := by omega
    refine ⟨_, 1, Or.inr ⟨fun q => c q.1, rfl, rfl⟩, by omega, ?_⟩
    have := lagr (zs t p) w
    rw [z] at this
    omega
theorem rc_corner (p t w : Z2) (hw : 0 < dt w w) : ∃ N D, Rc p t w N D ∧ 0 < D ∧ N * 1 ≤ dt (zs t p) (zs t p) * D := by
  by_cases c : 0 < -dt (zs t p) w ∧ -dt (zs t p) w < dt w w
  · refine ⟨_, _, Or.inl ⟨c.1, c.2, rfl, rfl⟩, hw, ?_⟩
    have := lagr (zs t p) w
    have s : 0 ≤ dt (zs t p) w * dt (zs t p) w := by
      rcases Int.le_total 0 (dt (zs t p) w) with h | h
      · exact Int.mul_nonneg h h
      · exact Int.mul_nonneg_of_nonpos_of_nonpos h h
    omega
  · exact ⟨_, 1, Or.inr ⟨c, rfl, rfl⟩, by omega, by omega⟩
theorem par_sq {c e : Z2} (h : Par c e) (w : Z2) : cr w c * cr w c * dt e e = cr w e * cr w e * dt c c := by
  have m := h.mul.2.2 w
  have hs : Par e c := ⟨by rw [cr_swap, h.1]; rfl, by rw [dt_comm]; exact h.2⟩
  have m' := hs.mul.2.2 w
  rw [cr_swap e w, cr_swap c w, dt_comm e c] at *
  rw [dt_comm c e] at m
  rw [dt_comm c e] at m'
  have a : cr w c * (dt e c * -cr w e) = cr w c * (dt e e * -cr w c) := by rw [m]
  have b : cr w e * (dt e c * -cr w c) = cr w e * (dt c c * -cr w e) := by rw [m']
  grind
theorem near_reach {V : Nat → Z2} (M : Mrg V f g) (hf : ∀ i, ed f i ≠ (0, 0)) (hg : ∀ j, ed g j ≠ (0, 0)) {p : Z2} {k : Nat} {N D : Int} (C : Cc V p k N D) : ∃ N' D', RcS f g p N' D' ∧ 0 < D' ∧ N' * D ≤ N * D' := by
  obtain ⟨i, j, eV, eE⟩ := M k
  rcases C with ⟨rfl, rfl⟩ | ⟨h1, h2, rfl, rfl⟩
  · obtain ⟨N', D', R, d0, le⟩ := rc_corner p (za (f i) (g j)) (ed f i) (par_self (hf i)).2
    refine ⟨N', D', ⟨i, j, _, Or.inl rfl, R⟩, d0, ?_⟩
    have : dt (zs p (V k)) (zs p (V k)) = dt (zs (za (f i) (g j)) p) (zs (za (f i) (g j)) p) := by rw [eV]; unfold dt zs; grind
    rw [this]; exact le
  · have sd : sdE V p k * sdE V p k = cr (zs (V k) p) (ed V k) * cr (zs (V k) p) (ed V k) := by
      have : sdE V p k = cr (zs (V k) p) (ed V k) := by unfold sdE cr zs; grind
      rw [this]
    rw [al_at] at h1 h2
    unfold sqE at h2 ⊢
    rw [sd]
    have fin : ∀ i' j' w, (w = ed f i' ∨ w = ed g j') → 0 < dt w w → 0 ≤ -dt (zs (za (f i') (g j')) p) w → -dt (zs (za (f i') (g j')) p) w < dt w w → cr (zs (za (f i') (g j')) p) w * cr (zs (za (f i') (g j')) p) w * dt (ed V k) (ed V k) = cr (zs (V k) p) (ed V k) * cr (zs (V k) p) (ed V k) * dt w w → ∃ N' D', RcS f g p N' D' ∧ 0 < D' ∧ N' * dt (ed V k) (ed V k) ≤ cr (zs (V k) p) (ed V k) * cr (zs (V k) p) (ed V k) * D' := fun i' j' w hw w0 a1 a2 q => by
      obtain ⟨N', D', R, d0, e⟩ := rc_low w0 a1 a2
      refine ⟨N', D', ⟨i', j', w, hw, R⟩, d0, Int.le_of_eq ?_⟩
      generalize cr (zs (V k) p) (ed V k) * cr (zs (V k) p) (ed V k) = x at *
      generalize cr (zs (za (f i') (g j')) p) w * cr (zs (za (f i') (g j')) p) w = y at *
      generalize dt (ed V k) (ed V k) = E at *
      have : dt w w * (N' * E) = dt w w * (x * D') := by
        rw [show dt w w * (N' * E) = (N' * dt w w) * E by grind, e, show y * D' * E = (y * E) * D' by grind, q]; grind
      exact Int.eq_of_mul_eq_mul_left (by omega) this
    rcases eE with e | e | ⟨e, z, s⟩
    · refine fin i j _ (Or.inl rfl) (par_self (hf i)).2 ?_ ?_ ?_ <;> rw [← eV, ← e]
      · omega
      · exact h2
    · refine fin i j _ (Or.inr rfl) (par_self (hg j)).2 ?_ ?_ ?_ <;> rw [← eV, ← e]
      · omega
      · exact h2
    · have P := Par.sum z s
      have u0 := (par_self (hf i)).2
      have v0 := (par_self (hg j)).2
      rw [e] at h1 h2
      have ps := fun w => par_sq P.1 w
      have ps2 := fun w => par_sq P.2 w
      have p1 : Par (ed f i) (ed g j) := ⟨z, s⟩
      -- along the one edge
      by_cases c : -dt (zs (V k) p) (ed f i) < dt (ed f i) (ed f i)
      · refine fin i j _ (Or.inl rfl) u0 ?_ ?_ ?_ <;> rw [← eV]
        · have k1 := cone_dt (ed f i) (ed g j) (zs (V k) p) (ed f i)
          -- dt u F and dt u E have one sign
          have q : dt (zs (V k) p) (ed f i) * dt (ed f i) (za (ed f i) (ed g j)) = dt (zs (V k) p) (za (ed f i) (ed g j)) * dt (ed f i) (ed f i) + cr (ed f i) (ed g j) * cr (zs (V k) p) (ed f i) := by unfold dt cr za; grind
          rw [z, Int.zero_mul, Int.add_zero] at q
          have m1 := Int.mul_neg_of_neg_of_pos (show dt (zs (V k) p) (za (ed f i) (ed g j)) < 0 by omega) u0
          have := le_of_mul P.1.2 (b := dt (zs (V k) p) (ed f i)) (by rw [Int.mul_comm]; omega)
          omega
        · exact c
        · rw [e]; exact ps _
      · have eW : zs (za (f (i + 1)) (g j)) p = za (zs (V k) p) (ed f i) := by rw [eV]; unfold ed zs za; apply Prod.ext <;> dsimp only <;> omega
        refine fin (i + 1) j _ (Or.inr rfl) v0 ?_ ?_ ?_ <;> rw [eW]
        · have q : dt (za (zs (V k) p) (ed f i)) (ed g j) * dt (ed f i) (ed f i) = (dt (zs (V k) p) (ed f i) + dt (ed f i) (ed f i)) * dt (ed f i) (ed g j) - cr (ed f i) (ed g j) * cr (zs (V k) p) (ed f i) := by unfold dt cr za; grind
          rw [z, Int.zero_mul, Int.sub_zero] at q
          have m1 := Int.mul_nonpos_of_nonpos_of_nonneg (show dt (zs (V k) p) (ed f i) + dt (ed f i) (ed f i) ≤ 0 by omega) (Int.le_of_lt s)
          have := le_of_mul u0 (b := dt (za (zs (V k) p) (ed f i)) (ed g j)) (by rw [Int.mul_comm]; omega)
          omega
        · have q : (dt (za (zs (V k) p) (ed f i)) (ed g j) + dt (ed g j) (ed g j)) * dt (ed g j) (za (ed f i) (ed g j)) = (dt (zs (V k) p) (za (ed f i) (ed g j)) + dt (za (ed f i) (ed g j)) (za (ed f i) (ed g j))) * dt (ed g j) (ed g j) - cr (ed f i) (ed g j) * cr (za (zs (V k) p) (za (ed f i) (ed g j))) (ed g j) := by unfold dt cr za; grind
          rw [z, Int.zero_mul, Int.sub_zero] at q
          have m1 := Int.mul_pos (show 0 < dt (zs (V k) p) (za (ed f i) (ed g j)) + dt (za (ed f i) (ed g j)) (za (ed f i) (ed g j)) by omega) v0
          have := pos_of_mul P.2.2 (b := dt (za (zs (V k) p) (ed f i)) (ed g j) + dt (ed g j) (ed g j)) (by rw [Int.mul_comm]; omega)
          omega
        · have ec : cr (za (zs (V k) p) (ed f i)) (ed g j) = cr (zs (V k) p) (ed g j) := by
            have : cr (za (zs (V k) p) (ed f i)) (ed g j) = cr (zs (V k) p) (ed g j) + cr (ed f i) (ed g j) := by unfold cr za; grind
            omega
          rw [ec, e]; exact ps2 _
end MR
