/-! from the machine's integers to the plane -/
def zP (v : PT) : Z2 := (v.1.toInt, v.2.toInt)
def Bd (v : PT) : Prop := -200 ≤ v.1.toInt ∧ v.1.toInt ≤ 200 ∧ -200 ≤ v.2.toInt ∧ v.2.toInt ≤ 200
theorem B9.bd {v : PT} (h : B9 v) : Bd v := by
  obtain ⟨a, b, c, d⟩ := h
  exact ⟨by omega, by omega, by omega, by omega⟩
theorem cr_i32 {a b c d : PT} (ha : Bd a) (hb : Bd b) (hc : Bd c) (hd : Bd d) : ((b.1 - a.1) * (c.2 - d.2) - (b.2 - a.2) * (c.1 - d.1)).toInt = cr (zs (zP b) (zP a)) (zs (zP c) (zP d)) := by
  obtain ⟨a1, a2, a3, a4⟩ := ha
  obtain ⟨b1, b2, b3, b4⟩ := hb
  obtain ⟨c1, c2, c3, c4⟩ := hc
  obtain ⟨d1, d2, d3, d4⟩ := hd
  have e1 := i32_subE (x := b.1) (y := a.1) (by omega) (by omega) (by omega) (by omega)
  have e2 := i32_subE (x := c.2) (y := d.2) (by omega) (by omega) (by omega) (by omega)
  have e3 := i32_subE (x := b.2) (y := a.2) (by omega) (by omega) (by omega) (by omega)
  have e4 := i32_subE (x := c.1) (y := d.1) (by omega) (by omega) (by omega) (by omega)
  have m1 := i32_mulE (x := b.1 - a.1) (y := c.2 - d.2) (by omega) (by omega) (by omega) (by omega)
  have m2 := i32_mulE (x := b.2 - a.2) (y := c.1 - d.1) (by omega) (by omega) (by omega) (by omega)
  rw [i32_subE (by rw [m1.1]; exact m1.2.1) (by rw [m1.1]; exact m1.2.2) (by rw [m2.1]; exact m2.2.1) (by rw [m2.1]; exact m2.2.2), m1.1, m2.1, e1, e2, e3, e4]
  rfl
theorem lt_i32 {a b c d : PT} (ha : Bd a) (hb : Bd b) (hc : Bd c) (hd : Bd d) : (b.2 - a.2) * (c.1 - d.1) < (b.1 - a.1) * (c.2 - d.2) ↔ 0 < cr (zs (zP b) (zP a)) (zs (zP c) (zP d)) := by
  obtain ⟨a1, a2, a3, a4⟩ := ha
  obtain ⟨b1, b2, b3, b4⟩ := hb
  obtain ⟨c1, c2, c3, c4⟩ := hc
  obtain ⟨d1, d2, d3, d4⟩ := hd
  have e1 := i32_subE (x := b.1) (y := a.1) (by omega) (by omega) (by omega) (by omega)
  have e2 := i32_subE (x := c.2) (y := d.2) (by omega) (by omega) (by omega) (by omega)
  have e3 := i32_subE (x := b.2) (y := a.2) (by omega) (by omega) (by omega) (by omega)
  have e4 := i32_subE (x := c.1) (y := d.1) (by omega) (by omega) (by omega) (by omega)
  have m1 := i32_mulE (x := b.1 - a.1) (y := c.2 - d.2) (by omega) (by omega) (by omega) (by omega)
  have m2 := i32_mulE (x := b.2 - a.2) (y := c.1 - d.1) (by omega) (by omega) (by omega) (by omega)
  rw [Int32.lt_iff_toInt_lt, m1.1, m2.1, e1, e2, e3, e4]
  unfold cr zs zP
  dsimp only
  omega
/-- a piece's points, counted round and round -/
def zR (V : List PT) (k : Nat) : Z2 := zP (vR V k)
theorem zR_per {V : List PT} (k : Nat) : zR V (k + V.length) = zR V k := by
  unfold zR; rw [vR_congr (Nat.add_mod_right ..)]
theorem vR_bd {V : List PT} (h : SmV V) (k : Nat) : Bd (vR V k) := (h.get _).bd
theorem piece_cvx {V : List PT} (h : SmV V) (h3 : 2 < V.length) (hp : pieceR V) : Cvx V.length (zR V) := by
  refine ⟨h3, fun k => zR_per k, fun e v h1 h2 => ?_⟩
  have hm := Nat.mod_lt e (show V.length > 0 by omega)
  have dm := Nat.mod_add_div e V.length
  obtain ⟨q, hq⟩ : ∃ q, q = V.length * (e / V.length) := ⟨_, rfl⟩
  rw [← hq] at dm
  have mv : ∀ x, q ≤ x → vR V (x - q) = vR V x := fun x hx => by
    apply vR_congr
    have e1 : x = (x - q) + V.length * (e / V.length) := by omega
    conv => rhs; rw [e1]
    rw [Nat.add_mul_mod_self_left]
  have p := hp (e % V.length) hm (v - q) (by omega) (by omega)
  have e0 : e % V.length = e - q := by omega
  rw [e0, show e - q + 1 = (e + 1) - q by omega, mv e (by omega), mv (e + 1) (by omega), mv v (by omega)] at p
  have t := (lt_i32 (vR_bd h e) (vR_bd h (e + 1)) (vR_bd h v) (vR_bd h e)).mp p
  exact t
