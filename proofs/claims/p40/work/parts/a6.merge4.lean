/-! the merged polygon -/
section M4
variable {l : Z2} {n m K : Nat} {f g : Nat → Z2}
def mV (n m : Nat) (f g : Nat → Z2) (K k : Nat) : Z2 := za (f (mSt n m f g (k % K)).1) (g (mSt n m f g (k % K)).2)
def mAll (f g : Nat → Z2) (t : Z2) : Prop := ∃ p q, t = za (f p) (g q)
theorem st_le : ∀ k, (mSt n m f g k).1 ≤ k := fun k => by
  induction k with
  | zero => exact Nat.le_refl _
  | succ k ih =>
    have := nx_one (n := n) (m := m) (f := f) (g := g) (s := mSt n m f g k)
    show (mNx n m f g (mSt n m f g k)).1 ≤ k + 1
    omega
theorem st_ge : ∀ k, k ≤ (mSt n m f g k).1 + (mSt n m f g k).2 := fun k => by
  induction k with
  | zero => exact Nat.zero_le _
  | succ k ih =>
    have := nx_sum (n := n) (m := m) (f := f) (g := g) (s := mSt n m f g k)
    show k + 1 ≤ (mNx n m f g (mSt n m f g k)).1 + (mNx n m f g (mSt n m f g k)).2
    omega
theorem mV_ed (F : Low l n f) (G : Low l m g) (hK : mSt n m f g K = (n, m)) (h3 : 3 ≤ K) {k : Nat} (hk : k < K) : ed (mV n m f g K) k = mE n m f g (mSt n m f g k) := by
  have e0 : mV n m f g K k = za (f (mSt n m f g k).1) (g (mSt n m f g k).2) := by unfold mV; rw [Nat.mod_eq_of_lt hk]
  have e1 : mV n m f g K (k + 1) = za (f (mSt n m f g (k + 1)).1) (g (mSt n m f g (k + 1)).2) := by
    unfold mV
    by_cases c : k + 1 < K
    · rw [Nat.mod_eq_of_lt c]
    · have e : k + 1 = K := by omega
      rw [e, Nat.mod_self, hK]
      show za (f 0) (g 0) = za (f n) (g m)
      have a := F.1.2.1 0
      have b := G.1.2.1 0
      rw [Nat.zero_add] at a b
      rw [a, b]
  show zs (mV n m f g K (k + 1)) (mV n m f g K k) = _
  rw [e0, e1]; rfl
theorem merge_rnd (F : Low l n f) (G : Low l m g) (hK : mSt n m f g K = (n, m)) (hgo : ∀ k, k < K → mGo n m (mSt n m f g k)) : Rnd l K (mV n m f g K) (mAll f g) := by
  have hn := F.1.1
  have hm := G.1.1
  have h3 : 3 ≤ K := by
    have := st_le (n := n) (m := m) (f := f) (g := g) K
    rw [hK] at this; omega
  have MM : ∀ k, k < K → MI l n m f g (mSt n m f g k) := fun k hk => st_MI F G k fun j hj => hgo j (by omega)
  have per : ∀ k, mV n m f g K (k + K) = mV n m f g K k := fun k => by unfold mV; rw [Nat.add_mod_right]
  refine ⟨⟨by omega, per, fun k => ⟨_, _, rfl⟩⟩, fun k t ht => ?_, fun k hk => ?_, ⟨?_, ?_⟩, fun c b hc => ?_⟩
  · obtain ⟨p, q, rfl⟩ := ht
    have hlt := Nat.mod_lt k (show K > 0 by omega)
    have e1 : mV n m f g K k = mV n m f g K (k % K) := by unfold mV; rw [Nat.mod_mod]
    have e2 : ed (mV n m f g K) k = ed (mV n m f g K) (k % K) := by
      unfold ed mV
      rw [Nat.mod_mod, Nat.mod_add_mod]
    rw [e1, e2, mV_ed F G hK h3 hlt]
    have e3 : mV n m f g K (k % K) = za (f (mSt n m f g (k % K)).1) (g (mSt n m f g (k % K)).2) := by unfold mV; rw [Nat.mod_mod]
    rw [e3]
    exact mE_left F G (i := (mSt n m f g (k % K)).1) (j := (mSt n m f g (k % K)).2) (MM _ hlt) (hgo _ hlt) p q
  · rw [mV_ed F G hK h3 (by omega), mV_ed F G hK h3 hk]
    exact mE_sorted F G (i := (mSt n m f g k).1) (j := (mSt n m f g k).2) (MM k (by omega)) (hgo k (by omega)) (hgo (k + 1) hk)
  · rw [mV_ed F G hK h3 (by omega)]
    have a := (mE_pos F G (i := 0) (j := 0) MI.start (Or.inl (by omega))).2.1 (by omega)
    have b : Ble l (mE n m f g (mSt n m f g 0)) (ed f 0) := a
    have u := F.first
    unfold Ble at b; omega
  · rw [mV_ed F G hK h3 (by omega)]
    have hl : K - 1 < K := by omega
    have M := MM _ hl
    have go := hgo _ hl
    have en : mNx n m f g (mSt n m f g (K - 1)) = (n, m) := by
      have : mSt n m f g (K - 1 + 1) = (n, m) := by rw [show K - 1 + 1 = K by omega]; exact hK
      exact this
    generalize mSt n m f g (K - 1) = s at *
    obtain ⟨i, j⟩ := s
    have fl := F.last
    have gl := G.last
    rcases mE_is F G M go with ⟨hi, e, e2, -⟩ | ⟨hj, e, e2, -⟩ | ⟨hi, hj, e, e2, -, s⟩
    · rw [e2] at en
      have a := congrArg Prod.fst en
      dsimp only at a
      rw [e, show i = n - 1 by omega]; exact fl
    · rw [e2] at en
      have a := congrArg Prod.snd en
      dsimp only at a
      rw [e, show j = m - 1 by omega]; exact gl
    · rw [e2] at en
      have a := congrArg Prod.fst en
      have b := congrArg Prod.snd en
      dsimp only at a b
      rw [e, show i = n - 1 by omega, show j = m - 1 by omega, dt_za]; omega
  · by_cases c1 : cr c (ed f 0) = 0
    · by_cases c2 : cr c (ed f 1) = 0
      · exfalso
        have t := F.1.turn 0
        have t : 0 < cr (ed f 0) (ed f 1) := t
        have q1 : cr (ed f 0) (ed f 1) * c.1 = cr c (ed f 1) * (ed f 0).1 - cr c (ed f 0) * (ed f 1).1 := by unfold cr; grind
        have q2 : cr (ed f 0) (ed f 1) * c.2 = cr c (ed f 1) * (ed f 0).2 - cr c (ed f 0) * (ed f 1).2 := by unfold cr; grind
        rw [c1, c2, Int.zero_mul, Int.zero_mul] at q1 q2
        have r1 := (Int.mul_eq_zero.mp (show cr (ed f 0) (ed f 1) * c.1 = 0 by omega)).resolve_left (by omega)
        have r2 := (Int.mul_eq_zero.mp (show cr (ed f 0) (ed f 1) * c.2 = 0 by omega)).resolve_left (by omega)
        exact hc (Prod.ext r1 r2)
      · by_cases d : cr c (zs (za (f 1) (g 0)) b) = 0
        · refine ⟨_, ⟨2, 0, rfl⟩, fun q => c2 ?_⟩
          show cr c (zs (f 2) (f 1)) = 0
          rw [cr_zs, cr_za] at d q
          rw [cr_zs]; omega
        · exact ⟨_, ⟨1, 0, rfl⟩, d⟩
    · by_cases d : cr c (zs (za (f 0) (g 0)) b) = 0
      · refine ⟨_, ⟨1, 0, rfl⟩, fun q => c1 ?_⟩
        show cr c (zs (f 1) (f 0)) = 0
        rw [cr_zs, cr_za] at d q
        rw [cr_zs]; omega
      · exact ⟨_, ⟨0, 0, rfl⟩, d⟩
theorem Low.le0 (F : Low l n f) (v : Nat) : dt l (f 0) ≤ dt l (f v) := by
  have hn := F.1.1
  by_cases c : v % n = 0
  · have := F.1.mod v
    rw [c] at this; rw [this]; exact Int.le_refl _
  · exact Int.le_of_lt (F.2.1 v c)
/-- the merged polygon is strictly convex and starts at its lowest point -/
theorem merge_low (F : Low l n f) (G : Low l m g) (hK : mSt n m f g K = (n, m)) (hgo : ∀ k, k < K → mGo n m (mSt n m f g k)) : Low l K (mV n m f g K) := by
  have hn := F.1.1
  have hm := G.1.1
  have R := merge_rnd F G hK hgo
  refine R.low fun v hv => ?_
  have h3 := R.three
  have hlt := Nat.mod_lt v (show K > 0 by omega)
  have M := st_MI F G (v % K) fun j hj => hgo j (by omega)
  have go := hgo _ hlt
  have ge := st_ge (n := n) (m := m) (f := f) (g := g) (v % K)
  have e0 : mV n m f g K 0 = za (f 0) (g 0) := by unfold mV; rw [Nat.zero_mod]; rfl
  rw [e0]
  show dt l (za (f 0) (g 0)) < dt l (za (f (mSt n m f g (v % K)).1) (g (mSt n m f g (v % K)).2))
  generalize mSt n m f g (v % K) = s at *
  obtain ⟨p, q⟩ := s
  rw [dt_za, dt_za]
  dsimp only at ge ⊢
  have fp := F.le0 p
  have gq := G.le0 q
  have fu := F.first
  have gu := G.first
  have fl := F.last
  have gl := G.last
  have a := M.1
  have b := M.2.1
  have c1 := M.2.2.1
  have c2 := M.2.2.2
  unfold mGo at go
  dsimp only at a b c1 c2 go
  by_cases z1 : p % n = 0
  · by_cases z2 : q % m = 0
    · exfalso
      have hp : p = 0 ∨ p = n := by
        by_cases w : p < n
        · rw [Nat.mod_eq_of_lt w] at z1; exact Or.inl z1
        · exact Or.inr (by omega)
      have hq : q = 0 ∨ q = m := by
        by_cases w : q < m
        · rw [Nat.mod_eq_of_lt w] at z2; exact Or.inl z2
        · exact Or.inr (by omega)
      rcases hp with rfl | rfl
      · rcases hq with rfl | rfl
        · omega
        · have x := c1 (by omega) (by omega)
          unfold Blt at x; omega
      · rcases hq with rfl | rfl
        · have x := c2 (by omega) (by omega)
          unfold Blt at x; omega
        · omega
    · have := G.2.1 q z2; omega
  · have := F.2.1 p z1; omega
end M4
