/-! the clearance: the polygon of two pieces and a square -/
def sqF (c : Z2) (r : Int) (k : Nat) : Z2 := if k % 4 = 0 then (c.1 - r, c.2 - r) else if k % 4 = 1 then (c.1 + r, c.2 - r) else if k % 4 = 2 then (c.1 + r, c.2 + r) else (c.1 - r, c.2 + r)
theorem mod4 (k : Nat) : k % 4 = 0 ∨ k % 4 = 1 ∨ k % 4 = 2 ∨ k % 4 = 3 := by omega
theorem sqF_ed (c : Z2) (r : Int) (k : Nat) : ed (sqF c r) k = (if k % 4 = 0 then (2 * r, 0) else if k % 4 = 1 then (0, 2 * r) else if k % 4 = 2 then (-(2 * r), 0) else (0, -(2 * r))) := by
  unfold ed sqF zs
  rcases mod4 k with h | h | h | h
  · rw [h, show (k + 1) % 4 = 1 by omega]
    simp only [if_true]
    simp
    omega
  · rw [h, show (k + 1) % 4 = 2 by omega]
    simp
    omega
  · rw [h, show (k + 1) % 4 = 3 by omega]
    simp
    omega
  · rw [h, show (k + 1) % 4 = 0 by omega]
    simp
    omega
theorem sqF_cvx (c : Z2) {r : Int} (hr : 0 < r) : Cvx 4 (sqF c r) := by
  refine ⟨by decide, fun k => by unfold sqF; rw [Nat.add_mod_right], fun e v h1 h2 => ?_⟩
  rw [sqF_ed]
  have m := Int.mul_pos (show 0 < 2 * r by omega) (show 0 < 2 * r by omega)
  have m' : -(2 * r) * (2 * r) < 0 := by rw [Int.neg_mul]; omega
  have m3 : 0 < -(2 * r) * -(2 * r) := by rw [Int.neg_mul_neg]; omega
  have m2 : 2 * r * -(2 * r) < 0 := by rw [Int.mul_neg]; omega
  have hv : v = e + 2 ∨ v = e + 3 := by omega
  unfold sqF cr zs
  rcases mod4 e with h | h | h | h <;> rcases hv with rfl | rfl
  · rw [h, show (e + 2) % 4 = 2 by omega]; simp; rw [show c.2 + r - (c.2 - r) = 2 * r by omega]; first | exact m | exact m' | exact m3 | exact m2
  · rw [h, show (e + 3) % 4 = 3 by omega]; simp; rw [show c.2 + r - (c.2 - r) = 2 * r by omega]; first | exact m | exact m' | exact m3 | exact m2
  · rw [h, show (e + 2) % 4 = 3 by omega]; simp; rw [show c.1 - r - (c.1 + r) = -(2 * r) by omega]; first | exact m | exact m' | exact m3 | exact m2
  · rw [h, show (e + 3) % 4 = 0 by omega]; simp; rw [show c.1 - r - (c.1 + r) = -(2 * r) by omega]; first | exact m | exact m' | exact m3 | exact m2
  · rw [h, show (e + 2) % 4 = 0 by omega]; simp; rw [show c.2 - r - (c.2 + r) = -(2 * r) by omega]; first | exact m | exact m' | exact m3 | exact m2
  · rw [h, show (e + 3) % 4 = 1 by omega]; simp; rw [show c.2 - r - (c.2 + r) = -(2 * r) by omega]; first | exact m | exact m' | exact m3 | exact m2
  · rw [h, show (e + 2) % 4 = 1 by omega]; simp; rw [show c.1 + r - (c.1 - r) = 2 * r by omega]; first | exact m | exact m' | exact m3 | exact m2
  · rw [h, show (e + 3) % 4 = 2 by omega]; simp; rw [show c.1 + r - (c.1 - r) = 2 * r by omega]; first | exact m | exact m' | exact m3 | exact m2
theorem Par.trans {c e w : Z2} (h1 : Par c e) (h2 : Par e w) : Par c w := by
  obtain ⟨m1, m2, m3⟩ := h1.mul
  have x := m3 w
  rw [h2.1, Int.mul_zero] at x
  have z : cr c w = 0 := (Int.mul_eq_zero.mp x.symm).resolve_left (by omega)
  refine ⟨z, ?_⟩
  have e3 : dt e e * dt c w = dt e c * dt e w + cr e c * cr e w := e2_id e c w
  rw [h2.1, Int.mul_zero, Int.add_zero, dt_comm e c] at e3
  have := Int.mul_pos m1 h2.2
  exact pos_of_mul m2 (by omega)
section SQ
variable {A A' B B' : List PT} {X Y x y r : Int32}
/-- a place near enough -/
def Nr (v : PT) : Prop := -100 ≤ v.1.toInt ∧ v.1.toInt ≤ 100 ∧ -100 ≤ v.2.toInt ∧ v.2.toInt ≤ 100
theorem sq_pg (hc : Nr (X, Y)) (r0 : 0 < r.toInt) (r5 : r.toInt ≤ 5) : PG 105 (sqP X Y r) ∧ ∃ s, ∀ k, zL (sqP X Y r) k = sqF (zP (X, Y)) r.toInt (s + k) := by
  obtain ⟨x1, x2, y1, y2⟩ := hc
  dsimp only at x1 x2 y1 y2
  have nr : ¬ r ≤ 0 := by rw [Int32.le_iff_toInt_le]; show ¬ r.toInt ≤ 0; omega
  have e : sqP X Y r = [(X - r, Y - r), (X + r, Y - r), (X + r, Y + r), (X - r, Y + r)] := if_neg nr
  have s1 := i32_subE (x := X) (y := r) (by omega) (by omega) (by omega) (by omega)
  have s2 := i32_subE (x := Y) (y := r) (by omega) (by omega) (by omega) (by omega)
  have a1 := i32_addE (x := X) (y := r) (by omega) (by omega) (by omega) (by omega)
  have a2 := i32_addE (x := Y) (y := r) (by omega) (by omega) (by omega) (by omega)
  have hz : ∀ k, zR (sqP X Y r) k = sqF (zP (X, Y)) r.toInt k := fun k => by
    rw [e]
    unfold zR vR sqF zP
    show _ = _
    have hl : [(X - r, Y - r), (X + r, Y - r), (X + r, Y + r), (X - r, Y + r)].length = 4 := rfl
    rw [hl]
    dsimp only
    rcases mod4 k with h | h | h | h <;> rw [h]
    · show ((X - r).toInt, (Y - r).toInt) = (X.toInt - r.toInt, Y.toInt - r.toInt); rw [s1, s2]
    · show ((X + r).toInt, (Y - r).toInt) = (X.toInt + r.toInt, Y.toInt - r.toInt); rw [a1, s2]
    · show ((X + r).toInt, (Y + r).toInt) = (X.toInt + r.toInt, Y.toInt + r.toInt); rw [a1, a2]
    · show ((X - r).toInt, (Y + r).toInt) = (X.toInt - r.toInt, Y.toInt + r.toInt); rw [s1, a2]
  have bd : ∀ v, v ∈ sqP X Y r → -105 ≤ v.1.toInt ∧ v.1.toInt ≤ 105 ∧ -105 ≤ v.2.toInt ∧ v.2.toInt ≤ 105 := fun v hv => by
    rw [e] at hv
    simp only [List.mem_cons, List.not_mem_nil, or_false] at hv
    rcases hv with rfl | rfl | rfl | rfl <;> dsimp only <;> omega
  have len : (sqP X Y r).length = 4 := by rw [e]; rfl
  refine ⟨⟨by decide, bd, low_of_cvx (fun v hv => ?_) ?_⟩, low (sqP X Y r), fun k => hz _⟩
  · obtain ⟨q1, q2, q3, q4⟩ := bd v hv
    exact ⟨by omega, by omega, by omega, by omega⟩
  · rw [len, show zR (sqP X Y r) = sqF (zP (X, Y)) r.toInt from funext hz]
    exact sqF_cvx _ r0
theorem low_one (c : PT) : low [c] = 0 := by simp [low, pfold, pstep]
theorem sumP_one {V : List PT} (c : PT) (hne : V ≠ []) : sumP V [c] = (List.range V.length).map fun k => ((vAt V k).1 + c.1, (vAt V k).2 + c.2) := by
  have v0 : vAt [c] 0 = c := by unfold vAt; rw [low_one]; rfl
  have v1 : vAt [c] 1 = c := by unfold vAt; rw [low_one]; rfl
  have hl : 0 < V.length := List.length_pos_iff.mpr hne
  have go : ∀ t i, 0 < i → V.length - i ≤ t → sumGo V [c] t i 1 = (List.range' i (V.length - i)).map fun k => ((vAt V k).1 + c.1, (vAt V k).2 + c.2) := fun t => by
    induction t with
    | zero =>
      intro i _ h
      rw [show V.length - i = 0 by omega]; rfl
    | succ t ih =>
      intro i h0 h
      show (if _ then _ else _) = _
      by_cases d : i < V.length
      · have t1 : turnP V [c] i 1 = 1 := by
          unfold turnP
          rw [if_pos d, if_neg (by show ¬ 1 < 1; omega)]
        rw [if_pos (Or.inl d), t1, if_neg (by decide), if_pos (by decide), ih (i + 1) (by omega) (by omega), v1]
        rw [show V.length - i = (V.length - (i + 1)) + 1 by omega, List.range'_succ, List.map_cons]
      · rw [if_neg (by show ¬ (i < V.length ∨ 1 < 1); omega), show V.length - i = 0 by omega]; rfl
  show sumGo V [c] (V.length + 1) 0 0 = _
  show (if _ then _ else _) = _
  have t0 : turnP V [c] 0 0 = 0 := by
    unfold turnP
    rw [if_pos hl, if_pos (by show 0 < 1; omega), v0, v1, Int32.sub_self, Int32.sub_self, Int32.mul_zero, Int32.mul_zero, Int32.sub_self]
  rw [if_pos (Or.inl hl), t0, if_neg (by decide), go V.length 1 (by omega) (by omega), v0, List.range_eq_range']
  obtain ⟨m, hm⟩ : ∃ m, V.length = m + 1 := ⟨V.length - 1, by omega⟩
  rw [hm, List.range'_succ, List.map_cons, Nat.add_sub_cancel]
/-- without a clearance the polygon is moved alone -/
theorem one_loc {V : List PT} {m : Int} (P : PG m V) (hm : m ≤ 90) (hc : Nr (X, Y)) (hp : Nr (x, y)) : locP (sumP V [(X, Y)]) x y = 2 ↔ ∀ k, 0 < sdE (zL V) (zP (x - X, y - Y)) k := by
  have hV := P.2.2.1
  have h3 := hV.1
  obtain ⟨c1, c2, c3, c4⟩ := hc
  obtain ⟨p1, p2, p3, p4⟩ := hp
  dsimp only at c1 c2 c3 c4 p1 p2 p3 p4
  have e := sumP_one (X, Y) P.ne
  have len : (sumP V [(X, Y)]).length = V.length := by rw [e, List.length_map, List.length_range]
  have vb : ∀ k, -m ≤ (vAt V k).1.toInt ∧ (vAt V k).1.toInt ≤ m ∧ -m ≤ (vAt V k).2.toInt ∧ (vAt V k).2.toInt ≤ m := fun k => by
    unfold vAt
    generalize (if low V + k < V.length then low V + k else low V + k - V.length) = i
    by_cases d : i < V.length
    · exact P.2.1 _ (getD_mem (0, 0) d)
    · rw [List.getD_eq_getElem?_getD, List.getElem?_eq_none (by omega)]
      have := P.1
      have z : (0 : Int32).toInt = 0 := by decide
      show -m ≤ (0 : Int32).toInt ∧ (0 : Int32).toInt ≤ m ∧ -m ≤ (0 : Int32).toInt ∧ (0 : Int32).toInt ≤ m
      rw [z]; omega
  have m0 := P.1.1
  have zk : ∀ k, zR (sumP V [(X, Y)]) k = za (zL V k) (zP (X, Y)) := fun k => by
    have hlt := Nat.mod_lt k (show V.length > 0 by omega)
    unfold zR vR
    rw [len, e, getD_mapq (d := 0) (by rw [List.length_range]; exact hlt)]
    have er : (List.range V.length).getD (k % V.length) 0 = k % V.length := by
      rw [List.getD_eq_getElem?_getD, List.getElem?_range hlt]; rfl
    rw [er, ← hV.mod k, ← vAt_zL P.ne (by omega : k % V.length ≤ V.length)]
    have b := vb (k % V.length)
    unfold zP za
    dsimp only
    rw [i32_addE (by omega) (by omega) (by omega) (by omega), i32_addE (by omega) (by omega) (by omega) (by omega)]
  have C : Cvx (sumP V [(X, Y)]).length (zR (sumP V [(X, Y)])) := by
    rw [len, show zR (sumP V [(X, Y)]) = fun k => za (zL V k) (zP (X, Y)) from funext zk]
    refine ⟨h3, fun k => by show za (zL V (k + V.length)) _ = _; rw [hV.2.1], fun e v h1 h2 => ?_⟩
    have := hV.2.2 e v h1 h2
    have q : cr (ed (fun k => za (zL V k) (zP (X, Y))) e) (zs (za (zL V v) (zP (X, Y))) (za (zL V e) (zP (X, Y)))) = cr (ed (zL V) e) (zs (zL V v) (zL V e)) := by
      unfold ed cr zs za; grind
    show 0 < cr (ed (fun k => za (zL V k) (zP (X, Y))) e) (zs (za (zL V v) (zP (X, Y))) (za (zL V e) (zP (X, Y))))
    omega
  have bd : ∀ v, v ∈ sumP V [(X, Y)] → -190 ≤ v.1.toInt ∧ v.1.toInt ≤ 190 ∧ -190 ≤ v.2.toInt ∧ v.2.toInt ≤ 190 := fun v hv => by
    rw [e] at hv
    obtain ⟨q, -, rfl⟩ := List.mem_map.mp hv
    have b := vb q
    dsimp only
    rw [i32_addE (by omega) (by omega) (by omega) (by omega), i32_addE (by omega) (by omega) (by omega) (by omega)]
    omega
  have P2 : PG 190 (sumP V [(X, Y)]) := ⟨by decide, bd, low_of_cvx (fun v hv => by obtain ⟨q1, q2, q3, q4⟩ := bd v hv; exact ⟨by omega, by omega, by omega, by omega⟩) C⟩
  rw [(loc_spec P2 ⟨by dsimp only; omega, by dsimp only; omega, by dsimp only; omega, by dsimp only; omega⟩).1]
  have zp : zP (x - X, y - Y) = zs (zP (x, y)) (zP (X, Y)) := by
    unfold zP zs
    dsimp only
    rw [i32_subE (by omega) (by omega) (by omega) (by omega), i32_subE (by omega) (by omega) (by omega) (by omega)]
  have sk : ∀ k, sdE (zL (sumP V [(X, Y)])) (zP (x, y)) k = sdE (zL V) (zP (x - X, y - Y)) (low (sumP V [(X, Y)]) + k) := fun k => by
    have z1 : ∀ j, zL (sumP V [(X, Y)]) j = za (zL V (low (sumP V [(X, Y)]) + j)) (zP (X, Y)) := fun j => zk _
    rw [zp]
    unfold sdE ed
    rw [z1, z1, Nat.add_assoc]
    unfold cr zs za; grind
  constructor
  · intro h k
    have q := h (k + (V.length - 1) * low (sumP V [(X, Y)]))
    rw [sk] at q
    rw [← sd_per hV] at q ⊢
    have e9 : low (sumP V [(X, Y)]) + (k + (V.length - 1) * low (sumP V [(X, Y)])) = k + V.length * low (sumP V [(X, Y)]) := by
      obtain ⟨j, hj⟩ : ∃ j, V.length = j + 1 := ⟨V.length - 1, by omega⟩
      rw [hj, Nat.add_sub_cancel, Nat.add_mul, Nat.one_mul]; omega
    rw [e9, Nat.add_mul_mod_self_left] at q
    exact q
  · intro h k
    rw [sk]; exact h _
theorem sq_par (A' B' : List PT) {r : Int} (hr : 0 < r) (c : Z2) (k : Nat) : ∃ d, NR A' B' d ∧ Par d (ed (sqF c r) k) := by
  rw [sqF_ed]
  rcases mod4 k with h | h | h | h <;> rw [h]
  · exact ⟨_, NR.ax A' B' (q := 3) (by omega), by unfold cr; simp, by unfold dt; simp; omega⟩
  · exact ⟨_, NR.ax A' B' (q := 0) (by omega), by unfold cr; simp, by unfold dt; simp; omega⟩
  · exact ⟨_, NR.ax A' B' (q := 1) (by omega), by unfold cr; simp, by unfold dt; simp; omega⟩
  · exact ⟨_, NR.ax A' B' (q := 2) (by omega), by unfold cr; simp, by unfold dt; simp; omega⟩
theorem sqF_pt (c : Z2) (r : Int) (k : Nat) : ∃ s : Z2, ((s.1 = r ∨ s.1 = -r) ∧ (s.2 = r ∨ s.2 = -r)) ∧ sqF c r k = za s c := by
  unfold sqF za
  rcases mod4 k with h | h | h | h <;> rw [h]
  · exact ⟨(-r, -r), ⟨Or.inr rfl, Or.inr rfl⟩, by simp; omega⟩
  · exact ⟨(r, -r), ⟨Or.inl rfl, Or.inr rfl⟩, by simp; omega⟩
  · exact ⟨(r, r), ⟨Or.inl rfl, Or.inl rfl⟩, by simp; omega⟩
  · exact ⟨(-r, r), ⟨Or.inr rfl, Or.inl rfl⟩, by simp; omega⟩
theorem pt_sqF (c s : Z2) (r : Int) (h : (s.1 = r ∨ s.1 = -r) ∧ (s.2 = r ∨ s.2 = -r)) : ∃ k, k < 4 ∧ sqF c r k = za s c := by
  obtain ⟨s1, s2⟩ := s
  dsimp only at h
  unfold sqF za
  rcases h with ⟨rfl | rfl, rfl | rfl⟩
  · exact ⟨2, by omega, by simp; omega⟩
  · exact ⟨1, by omega, by simp; omega⟩
  · exact ⟨3, by omega, by simp; omega⟩
  · exact ⟨0, by omega, by simp; omega⟩
/-- too close: class and reference -/
theorem nf_clr (HA : CP A A') (HB : CP B B') (hc : Nr (X, Y)) (hp : Nr (x, y)) (r0 : 0 ≤ r.toInt) (r5 : r.toInt ≤ 5) : locP (sumP (nfQ A B) (sqP X Y r)) x y = 2 ↔ insP A' B' (x - X) (y - Y) r 0 = true := by
  obtain ⟨PV, M, H, D⟩ := nf_all HA HB
  have hA := HA.len
  have hB := HB.len
  have hd : Bd (x - X, y - Y) ∧ zP (x - X, y - Y) = zs (zP (x, y)) (zP (X, Y)) := by
    obtain ⟨c1, c2, c3, c4⟩ := hc
    obtain ⟨p1, p2, p3, p4⟩ := hp
    dsimp only at c1 c2 c3 c4 p1 p2 p3 p4
    have e1 := i32_subE (x := x) (y := X) (by omega) (by omega) (by omega) (by omega)
    have e2 := i32_subE (x := y) (y := Y) (by omega) (by omega) (by omega) (by omega)
    refine ⟨⟨by dsimp only; omega, by dsimp only; omega, by dsimp only; omega, by dsimp only; omega⟩, ?_⟩
    unfold zP zs
    dsimp only
    rw [e1, e2]
  obtain ⟨i1, -⟩ := ins_spec (r := r) HA.2.1 HB.2.1 (by omega) (by omega) r0 r5 hd.1
  rw [i1]
  by_cases rz : r.toInt = 0
  · have e0 : r = 0 := Int32.toInt_inj.mp rz
    subst e0
    have es : sqP X Y 0 = [(X, Y)] := by
      unfold sqP
      rw [if_pos (Int32.le_refl 0), Int32.sub_zero, Int32.sub_zero]
    rw [es, one_loc PV (by decide) hc hp]
    exact in_strict H D _
  · have rp : 0 < r.toInt := by omega
    obtain ⟨PS, s, hs⟩ := sq_pg hc rp r5
    obtain ⟨P2, K, ⟨hK, hgo⟩, len, ez⟩ := pg_sum PV PS (by decide)
    have M2 : Mrg (zL (sumP (nfQ A B) (sqP X Y r))) (zL (nfQ A B)) (zL (sqP X Y r)) := by
      rw [ez]; exact mV_mrg PV.2.2 PS.2.2 hK hgo
    have R2 := merge_rnd PV.2.2 PS.2.2 hK hgo
    have edS : ∀ k, ed (zL (sqP X Y r)) k = ed (sqF (zP (X, Y)) r.toInt) (s + k) := fun k => by
      unfold ed; rw [hs, hs, Nat.add_assoc]
    have hp' : Bd (x, y) := by
      obtain ⟨p1, p2, p3, p4⟩ := hp
      exact ⟨by omega, by omega, by omega, by omega⟩
    rw [(loc_spec P2 hp').1]
    -- the hull of the polygon with the square
    have T0 : ∀ k, TR A' B' 0 (zL (nfQ A B) k) := H.2.1
    have H2 : Hul (sumP (nfQ A B) (sqP X Y r)).length (zL (sumP (nfQ A B) (sqP X Y r))) (fun t => ∃ t0, TR A' B' r.toInt t0 ∧ t = za t0 (zP (X, Y))) := by
      refine ⟨P2.2.2.1, fun k => ?_, fun k t ht => ?_⟩
      · obtain ⟨i, j, e, -⟩ := M2 k
        obtain ⟨v, u, s0, ⟨h1, h2⟩, e0⟩ := T0 i
        obtain ⟨s1, h3, e1⟩ := sqF_pt (zP (X, Y)) r.toInt (s + j)
        refine ⟨za (zs (zR A' v) (zR B' u)) s1, ⟨v, u, s1, h3, rfl⟩, ?_⟩
        rw [e, hs, e1, e0]
        unfold za zs
        apply Prod.ext <;> dsimp only <;> omega
      · obtain ⟨t0, ⟨v, u, s1, h3, rfl⟩, rfl⟩ := ht
        obtain ⟨j, hj, ej⟩ := pt_sqF (zP (X, Y)) s1 r.toInt h3
        obtain ⟨j', hj'⟩ : ∃ j', zL (sqP X Y r) j' = sqF (zP (X, Y)) r.toInt j := by
          refine ⟨j + 3 * s, ?_⟩
          rw [hs]
          unfold sqF
          rw [show (s + (j + 3 * s)) % 4 = j % 4 by omega]
        have tin : TR A' B' 0 (zs (zR A' v) (zR B' u)) := ⟨v, u, (0, 0), ⟨Or.inl rfl, Or.inl rfl⟩, by unfold za zs; apply Prod.ext <;> dsimp only <;> omega⟩
        obtain ⟨w, hw⟩ := H.1.inner0 (p := zs (zR A' v) (zR B' u)) (fun e => H.2.2 e _ tin) ((ed (zL (sumP (nfQ A B) (sqP X Y r))) k).2, -(ed (zL (sumP (nfQ A B) (sqP X Y r))) k).1)
        rw [dt_nrm, dt_nrm] at hw
        have left := R2.2.1 k (za (zL (nfQ A B) w) (zL (sqP X Y r) j')) ⟨w, j', rfl⟩
        rw [← ez, hj', ej] at left
        have e5 : ∀ (d a b : Z2), cr d (zs (za a (za s1 (zP (X, Y)))) b) = cr d a + cr d s1 + cr d (zP (X, Y)) - cr d b := fun d a b => by rw [cr_zs, cr_za, cr_za]; omega
        have e6 : ∀ (d a b : Z2), cr d (zs (za (za a s1) (zP (X, Y))) b) = cr d a + cr d s1 + cr d (zP (X, Y)) - cr d b := fun d a b => by rw [cr_zs, cr_za, cr_za]
        rw [e5] at left
        rw [e6]
        omega
    have D2 : Dir (zL (sumP (nfQ A B) (sqP X Y r))) (NR A' B') := by
      refine ⟨D.1, fun k => ?_⟩
      obtain ⟨i, j, -, e | e | ⟨e, z, sg⟩⟩ := M2 k
      · rw [e]; exact D.2 i
      · rw [e, edS]; exact sq_par A' B' rp _ _
      · obtain ⟨c, hc1, hc2⟩ := D.2 i
        exact ⟨c, hc1, by rw [e]; exact hc2.trans (Par.sum z sg).1⟩
    refine (in_strict H2 D2 _).trans ?_
    rw [hd.2]
    constructor
    · intro h c hc1
      obtain ⟨t, ⟨t0, h1, rfl⟩, lt⟩ := h c hc1
      refine ⟨t0, h1, ?_⟩
      rw [cr_za] at lt
      rw [cr_zs]; omega
    · intro h c hc1
      obtain ⟨t0, h1, lt⟩ := h c hc1
      refine ⟨_, ⟨t0, h1, rfl⟩, ?_⟩
      rw [cr_zs] at lt
      rw [cr_za]; omega
end SQ
