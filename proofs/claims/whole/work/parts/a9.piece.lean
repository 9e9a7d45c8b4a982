/-! a piece as a polygon from its lowest point on -/
theorem Cvx.ne {n : Nat} {f : Nat → Z2} (H : Cvx n f) {e v : Nat} (h1 : e + 1 ≤ v) (h2 : v < e + n) : f v ≠ f e := fun q => by
  have z : zs (f v) (f e) = (0, 0) := by rw [q]; unfold zs; simp
  by_cases c : v = e + 1
  · subst c
    have t := H.turn e
    have : ed f e = (0, 0) := z
    rw [this] at t
    have : cr (0, 0) (ed f (e + 1)) = 0 := by unfold cr; simp
    omega
  · have t := H.2.2 e v (by omega) h2
    rw [z] at t
    have : cr (ed f e) (0, 0) = 0 := by unfold cr; simp
    omega
abbrev lM : Z2 := (1, 1000)
theorem dt_lM (w : Z2) : dt lM w = w.1 + 1000 * w.2 := by unfold dt; dsimp only; omega
theorem zR_b {V : List PT} (h : SmV V) (k : Nat) : (-9 ≤ (zR V k).1 ∧ (zR V k).1 ≤ 9) ∧ -9 ≤ (zR V k).2 ∧ (zR V k).2 ≤ 9 := by
  obtain ⟨a, b, c, d⟩ : B9 (vR V k) := h.get _
  exact ⟨⟨a, b⟩, c, d⟩
theorem piece_low {V : List PT} (h : SmV V) (h3 : 2 < V.length) (hp : pieceR V) : Low lM V.length (fun k => zR V (low V + k)) := by
  have C := piece_cvx h h3 hp
  have C' := C.shift (low V)
  have hne : V ≠ [] := fun e => by rw [e] at h3; simp at h3
  obtain ⟨i1, i2⟩ := pfold_low V hne
  obtain ⟨j1, j2⟩ := pfold_LoS V hne
  have z0 : zR V (low V + 0) = zP (V.getD (low V) (0, 0)) := by unfold zR; rw [Nat.add_zero, vR_lt i1]
  refine ⟨C', fun v hv => ?_, fun k => ?_⟩
  · have hm := Nat.mod_lt (low V + v) (show V.length > 0 by omega)
    have zk : zR V (low V + v) = zP (V.getD ((low V + v) % V.length) (0, 0)) := rfl
    have b0 := zR_b h (low V + 0)
    have bv := zR_b h (low V + v)
    have ne : zR V (low V + v) ≠ zR V (low V + 0) := by
      have m1 := C'.mod v
      have m2 : zR V (low V + v % V.length) = zR V (low V + v) := m1
      have vm := Nat.mod_lt v (show V.length > 0 by omega)
      rw [← m2]
      exact C'.ne (e := 0) (v := v % V.length) (by omega) (by omega)
    obtain ⟨⟨k1, k2⟩, -⟩ := j2 _ hm
    show dt lM (zR V (low V + 0)) < dt lM (zR V (low V + v))
    rw [dt_lM, dt_lM]
    have y0 : (zR V (low V + 0)).2 = ((V.getD (low V) (0, 0)).2).toInt := by rw [z0]; rfl
    have x0 : (zR V (low V + 0)).1 = ((V.getD (low V) (0, 0)).1).toInt := by rw [z0]; rfl
    have yv : (zR V (low V + v)).2 = ((V.getD ((low V + v) % V.length) (0, 0)).2).toInt := by rw [zk]; rfl
    have xv : (zR V (low V + v)).1 = ((V.getD ((low V + v) % V.length) (0, 0)).1).toInt := by rw [zk]; rfl
    have j1' : (V.getD (low V) (0, 0)).2 = (pfold V).2.2.2.2.1 := j1
    by_cases c : (V.getD ((low V + v) % V.length) (0, 0)).2 = (pfold V).2.2.2.2.1
    · have k2 := k2 c
      rw [i2] at k2
      have ey : (zR V (low V + v)).2 = (zR V (low V + 0)).2 := by rw [yv, y0, c, j1']
      have nx' : (zR V (low V + v)).1 ≠ (zR V (low V + 0)).1 := fun q => ne (Prod.ext q ey)
      omega
    · have : (pfold V).2.2.2.2.1.toInt ≠ (V.getD ((low V + v) % V.length) (0, 0)).2.toInt := fun q => c (Int32.toInt_inj.mp q).symm
      rw [← j1'] at k1 this
      omega
  · have b0 := zR_b h (low V + k)
    have b1 := zR_b h (low V + (k + 1))
    have ne := C'.ne (e := k) (v := k + 1) (by omega) (by omega)
    have e : ed (fun k => zR V (low V + k)) k = zs (zR V (low V + (k + 1))) (zR V (low V + k)) := rfl
    rw [e, dt_zs, dt_lM, dt_lM]
    intro q
    have ey : (zR V (low V + (k + 1))).2 = (zR V (low V + k)).2 := by omega
    have ex : (zR V (low V + (k + 1))).1 = (zR V (low V + k)).1 := by omega
    exact ne (Prod.ext ex ey)
