/-! the times at which a ray is inside: by the polygon's edges, by a set of directions -/
def scZ (b : Int) (w : Z2) : Z2 := (b * w.1, b * w.2)
theorem ed_sc (b : Int) (f : Nat → Z2) (k : Nat) : ed (fun v => scZ b (f v)) k = scZ b (ed f k) := by
  unfold ed zs scZ
  apply Prod.ext <;> dsimp only <;> grind
theorem cr_sc (b : Int) (u w : Z2) : cr (scZ b u) w = b * cr u w := by unfold cr scZ; grind
theorem zs_sc (b : Int) (u w : Z2) : zs (scZ b u) (scZ b w) = scZ b (zs u w) := by
  unfold zs scZ
  apply Prod.ext <;> dsimp only <;> grind
theorem cr_sc2 (b : Int) (u w : Z2) : cr u (scZ b w) = b * cr u w := by unfold cr scZ; grind
section FE
variable {n : Nat} {V : Nat → Z2} {T N : Z2 → Prop} {p d : Z2} {a b : Int}
theorem Cvx.scale (H : Cvx n V) (hb : 0 < b) : Cvx n (fun k => scZ b (V k)) := by
  refine ⟨H.1, fun k => by show scZ b (V (k + n)) = _; rw [H.2.1], fun e v h1 h2 => ?_⟩
  rw [ed_sc, zs_sc, cr_sc, cr_sc2]
  exact Int.mul_pos hb (Int.mul_pos hb (H.2.2 e v h1 h2))
theorem feas_iff (H : Hul n V T) (D : Dir V N) (hb : 0 < b) : (∀ k, 0 < sdE V p k * b + a * cr (ed V k) d) ↔ ∀ c, N c → ∃ t, T t ∧ 0 < (cr c p - cr c t) * b + a * cr c d := by
  have ex : ∀ c t : Z2, cr c (zs (za (scZ b p) (scZ a d)) (scZ b t)) = (cr c p - cr c t) * b + a * cr c d := fun c t => by unfold cr zs za scZ; grind
  constructor
  · intro h c hc
    have C := H.1.scale hb
    obtain ⟨v, hv⟩ := C.inner (p := za (scZ b p) (scZ a d)) (fun e => by
      have he := h e
      have q : cr (ed (fun k => scZ b (V k)) e) (zs (za (scZ b p) (scZ a d)) (scZ b (V e))) = b * (sdE V p e * b + a * cr (ed V e) d) := by
        rw [ed_sc, cr_sc, ex]; unfold sdE; rw [cr_zs]
      show 0 < cr (ed (fun k => scZ b (V k)) e) (zs (za (scZ b p) (scZ a d)) (scZ b (V e)))
      rw [q]; exact Int.mul_pos hb he) (nrm_ne (D.1 c hc))
    rw [dt_nrm, dt_nrm] at hv
    refine ⟨_, H.2.1 v, ?_⟩
    have := ex c (V v)
    rw [cr_zs] at this
    omega
  · intro h k
    obtain ⟨c, hc, hp⟩ := D.2 k
    obtain ⟨t, ht, lt⟩ := h c hc
    obtain ⟨m1, m2, m3⟩ := hp.mul
    have w := H.2.2 k t ht
    have m := m3 (zs (za (scZ b p) (scZ a d)) (scZ b t))
    rw [ex, ex] at m
    have q := Int.mul_pos m2 lt
    rw [← m] at q
    have := pos_of_mul m1 q
    have m4 := Int.mul_nonneg w (Int.le_of_lt hb)
    have e2 : sdE V p k * b + a * cr (ed V k) d = (cr (ed V k) p - cr (ed V k) t) * b + a * cr (ed V k) d + cr (ed V k) (zs t (V k)) * b := by unfold sdE cr zs; grind
    omega
end FE
