/-! rays: the reference's times, and the two at one pair of pieces -/
def zE (e b : FQ) : Q4I := (b.1.toInt, b.2.toInt, e.1.toInt, e.2.toInt)
def Bm (e b : FQ) : Prop := ((-200000 ≤ b.1.toInt ∧ b.1.toInt ≤ 200000) ∧ 0 < b.2.toInt ∧ b.2.toInt ≤ 200000) ∧ (-200000 ≤ e.1.toInt ∧ e.1.toInt ≤ 200000) ∧ 0 < e.2.toInt ∧ e.2.toInt ≤ 200000
theorem mt_up {e b : FQ} {s g : Int64} (H : Bm e b) (hs : -200000 ≤ s.toInt ∧ s.toInt ≤ 200000) (hg : -200000 ≤ g.toInt ∧ g.toInt ≤ 200000) : Bm (mtUp e b s g).1 (mtUp e b s g).2 ∧ zE (mtUp e b s g).1 (mtUp e b s g).2 = eI (zE e b) (s.toInt, -g.toInt) := by
  obtain ⟨lo, lb⟩ := b
  obtain ⟨hi, hb⟩ := e
  obtain ⟨⟨h1, h2, h2'⟩, h3, h4, h4'⟩ := H
  dsimp only at h1 h2 h2' h3 h4 h4'
  have ns := i64_negE (x := s) ⟨by omega, by omega⟩
  have ng := i64_negE (x := g) ⟨by omega, by omega⟩
  have m1 := i64_mulE (x := lo) (y := -g) ⟨by omega, by omega⟩ ⟨by omega, by omega⟩
  have m2 := i64_mulE (x := -s) (y := lb) ⟨by omega, by omega⟩ ⟨by omega, by omega⟩
  have m3 := i64_mulE (x := s) (y := hb) ⟨by omega, by omega⟩ ⟨by omega, by omega⟩
  have m4 := i64_mulE (x := hi) (y := g) ⟨by omega, by omega⟩ ⟨by omega, by omega⟩
  have c1 : (g < 0 ∧ lo * -g < -s * lb) ↔ loB (zE (hi, hb) (lo, lb)) (s.toInt, -g.toInt) := by
    unfold loB zE
    dsimp only
    rw [i64_lt, i64_lt, m1, m2, ns, ng, i64_z]
    exact ⟨fun h => ⟨by omega, h.2⟩, fun h => ⟨by omega, h.2⟩⟩
  have c2 : (0 < g ∧ s * hb < hi * g) ↔ hiB (zE (hi, hb) (lo, lb)) (s.toInt, -g.toInt) := by
    unfold hiB zE
    dsimp only
    rw [i64_lt, i64_lt, m3, m4, i64_z, Int.neg_neg]
    exact ⟨fun h => ⟨by omega, h.2⟩, fun h => ⟨by omega, h.2⟩⟩
  unfold mtUp eI
  dsimp only
  by_cases d1 : g < 0 ∧ lo * -g < -s * lb
  · have g1 : g.toInt < 0 := by have := d1.1; rw [i64_lt, i64_z] at this; exact this
    rw [if_pos d1, if_pos (c1.mp d1), if_pos (c1.mp d1)]
    by_cases d2 : 0 < g ∧ s * hb < hi * g
    · have g2 : 0 < g.toInt := by have := d2.1; rw [i64_lt, i64_z] at this; exact this
      omega
    · rw [if_neg d2, if_neg fun h => d2 (c2.mpr h), if_neg fun h => d2 (c2.mpr h)]
      unfold Bm zE
      dsimp only
      rw [ns, ng]
      exact ⟨⟨⟨by omega, by omega⟩, by omega, by omega⟩, rfl⟩
  · rw [if_neg d1, if_neg fun h => d1 (c1.mpr h), if_neg fun h => d1 (c1.mpr h)]
    by_cases d2 : 0 < g ∧ s * hb < hi * g
    · have g2 : 0 < g.toInt := by have := d2.1; rw [i64_lt, i64_z] at this; exact this
      rw [if_pos d2, if_pos (c2.mp d2), if_pos (c2.mp d2)]
      unfold Bm zE
      dsimp only
      rw [Int.neg_neg]
      exact ⟨⟨⟨by omega, by omega⟩, by omega, by omega⟩, rfl⟩
    · rw [if_neg d2, if_neg fun h => d2 (c2.mpr h), if_neg fun h => d2 (c2.mpr h)]
      refine ⟨?_, rfl⟩
      unfold Bm
      dsimp only
      exact ⟨⟨by omega, by omega⟩, by omega, by omega⟩
section RB
variable {A B A' B' : List PT} {x y dx dy : Int32}
/-- a direction's normal as a condition on the time -/
def wE (A B : List PT) (p d : Z2) (q : Nat) : Int × Int := ((rchP A B (nrmN A B q) 0).toInt - dt (zP (nrmN A B q)) p, -dt (zP (nrmN A B q)) d)
theorem mt_one (hA : RP A) (hB : RP B) (hp : Bd (x, y)) (hd : Dv (dx, dy)) (q : Nat) : ((mtL A B x y q).toInt = (wE A B (zP (x, y)) (zP (dx, dy)) q).1 ∧ -(mtS A B dx dy q).toInt = (wE A B (zP (x, y)) (zP (dx, dy)) q).2) ∧ (-200000 ≤ (mtL A B x y q).toInt ∧ (mtL A B x y q).toInt ≤ 200000) ∧ -200000 ≤ (mtS A B dx dy q).toInt ∧ (mtS A B dx dy q).toInt ≤ 200000 := by
  have hn := cN_bd hA.1 hB.1 q
  have R := (reach_spec (r := 0) hA.1 hB.1 (by have := hA.2.1; omega) (by have := hB.2.1; omega) (by decide) (by decide) hn).2
  have dd : Bd (dx, dy) := by
    obtain ⟨⟨e, f, g, i⟩, -⟩ := hd
    exact ⟨by omega, by omega, by omega, by omega⟩
  have D := dt_i32 hn hp
  have S := dt_i32 hn dd
  dsimp only at D S
  obtain ⟨n1, n2, n3, n4⟩ := hn
  obtain ⟨p1, p2, p3, p4⟩ := hp
  dsimp only at p1 p2 p3 p4
  have m1 := i32_mulE (x := (nrmN A B q).1) (y := x) (by omega) (by omega) (by omega) (by omega)
  have m2 := i32_mulE (x := (nrmN A B q).2) (y := y) (by omega) (by omega) (by omega) (by omega)
  have b1 := mul_bd (a := (nrmN A B q).1.toInt) (b := x.toInt) (A := 40) (B := 200) (by omega) (by omega) (by omega) (by omega)
  have b2 := mul_bd (a := (nrmN A B q).2.toInt) (b := y.toInt) (A := 40) (B := 200) (by omega) (by omega) (by omega) (by omega)
  have s1 := i32_subE (x := rchP A B (nrmN A B q) 0) (y := (nrmN A B q).1 * x) (by omega) (by omega) (by omega) (by omega)
  have s2 := i32_subE (x := rchP A B (nrmN A B q) 0 - (nrmN A B q).1 * x) (y := (nrmN A B q).2 * y) (by omega) (by omega) (by omega) (by omega)
  have e : dt (zP (nrmN A B q)) (zP (x, y)) = (nrmN A B q).1.toInt * x.toInt + (nrmN A B q).2.toInt * y.toInt := rfl
  unfold mtL mtS wE
  rw [i64_w, i64_w]
  dsimp only
  exact ⟨⟨by omega, by omega⟩, ⟨by omega, by omega⟩, by omega, by omega⟩
theorem mt_go (hA : RP A) (hB : RP B) (hp : Bd (x, y)) (hd : Dv (dx, dy)) : ∀ t q e b, Bm e b → ((mtGo A B x y dx dy t q e b).1 = false ∧ ∃ j, j < q + t ∧ (wE A B (zP (x, y)) (zP (dx, dy)) j).2 = 0 ∧ (wE A B (zP (x, y)) (zP (dx, dy)) j).1 ≤ 0) ∨ ∃ e' b', mtGo A B x y dx dy t q e b = (decide (0 < e'.1 ∧ b'.1 * e'.2 < e'.1 * b'.2), b') ∧ Bm e' b' ∧ zE e' b' = ((List.range' q t).map (wE A B (zP (x, y)) (zP (dx, dy)))).foldl eI (zE e b) ∧ ∀ j, q ≤ j → j < q + t → (wE A B (zP (x, y)) (zP (dx, dy)) j).2 = 0 → 0 < (wE A B (zP (x, y)) (zP (dx, dy)) j).1 := fun t => by
  induction t with
  | zero =>
    intro q e b hb
    exact Or.inr ⟨e, b, rfl, hb, rfl, fun j h1 h2 => by omega⟩
  | succ t ih =>
    intro q e b hb
    rw [mtGo_succ]
    obtain ⟨⟨o1, o2⟩, o3, o4⟩ := mt_one hA hB hp hd q
    generalize mtL A B x y q = s at *
    generalize mtS A B dx dy q = g at *
    by_cases c : g = 0 ∧ ¬ 0 < s
    · rw [if_pos c]
      refine Or.inl ⟨rfl, q, by omega, ?_, ?_⟩
      · rw [← o2, c.1]; rfl
      · have := c.2
        rw [i64_lt, i64_z] at this
        omega
    · rw [if_neg c]
      obtain ⟨u1, u2⟩ := mt_up hb o3 o4
      rcases ih (q + 1) _ _ u1 with ⟨h1, j, h2, h3⟩ | ⟨e', b', h1, h2, h3, h4⟩
      · exact Or.inl ⟨h1, j, by omega, h3⟩
      · refine Or.inr ⟨e', b', h1, h2, ?_, fun j j1 j2 z => ?_⟩
        · rw [h3, u2, List.range'_succ, List.map_cons, List.foldl_cons, o1, o2]
        · by_cases d : j = q
          · subst d
            rw [← o2] at z
            rw [← o1]
            by_cases w : 0 < s.toInt
            · exact w
            · exact absurd ⟨i64_eq.mpr (by rw [i64_z]; omega), fun q => w (by rw [i64_lt, i64_z] at q; exact q)⟩ c
          · exact h4 j (by omega) (by omega) z
/-- the reference's times -/
def FW (A B : List PT) (p d : Z2) (a b : Int) : Prop := ∀ c, NR A B c → ∃ t, TR A B 0 t ∧ 0 < (cr c p - cr c t) * b + a * cr c d
theorem FW_one (hA : RP A) (hB : RP B) {p d : Z2} {a b : Int} (hb : 0 < b) (q : Nat) : (∃ t, TR A B 0 t ∧ 0 < (cr (cN A B q) p - cr (cN A B q) t) * b + a * cr (cN A B q) d) ↔ 0 < (wE A B p d q).1 * b + a * (wE A B p d q).2 := by
  have hn := cN_bd hA.1 hB.1 q
  obtain ⟨⟨t, t1, t2⟩, t3⟩ := (reach_spec (r := 0) hA.1 hB.1 (by have := hA.2.1; omega) (by have := hB.2.1; omega) (by decide) (by decide) hn).1
  unfold wE
  dsimp only
  have ex : ∀ t, (cr (cN A B q) p - cr (cN A B q) t) * b + a * cr (cN A B q) d = (dt (zP (nrmN A B q)) t - dt (zP (nrmN A B q)) p) * b + a * -dt (zP (nrmN A B q)) d := fun t => by
    rw [cr_cN, cr_cN, cr_cN]; grind
  constructor
  · rintro ⟨s, s1, s2⟩
    rw [ex] at s2
    have := Int.mul_le_mul_of_nonneg_right (show dt (zP (nrmN A B q)) s - dt (zP (nrmN A B q)) p ≤ (rchP A B (nrmN A B q) 0).toInt - dt (zP (nrmN A B q)) p by have := t3 s s1; omega) (Int.le_of_lt hb)
    omega
  · intro h
    refine ⟨t, t1, ?_⟩
    rw [ex, ← t2]; exact h
theorem FW_all (hA : RP A) (hB : RP B) {p d : Z2} {a b : Int} (hb : 0 < b) : FW A B p d a b ↔ ∀ q, q < 4 + A.length + B.length → 0 < (wE A B p d q).1 * b + a * (wE A B p d q).2 := by
  constructor
  · intro h q hq
    exact (FW_one hA hB hb q).mp (h _ ⟨q, hq, rfl⟩)
  · rintro h c ⟨q, hq, rfl⟩
    exact (FW_one hA hB hb q).mpr (h q hq)
theorem FW_cap (hA : RP A) (hB : RP B) {x y dx dy : Int32} (hp : Bd (x, y)) (hd : Dv (dx, dy)) {a b : Int} (hb : 0 < b) (h : FW A B (zP (x, y)) (zP (dx, dy)) a b) : -100000 * b < a ∧ a < 100000 * b := by
  obtain ⟨p1, p2, p3, p4⟩ := hp
  obtain ⟨⟨d1, d2, d3, d4⟩, d5⟩ := hd
  dsimp only at p1 p2 p3 p4 d1 d2 d3 d4 d5
  have tb : ∀ t, TR A B 0 t → -18 ≤ t.1 ∧ t.1 ≤ 18 ∧ -18 ≤ t.2 ∧ t.2 ≤ 18 := fun t ht => by
    obtain ⟨v, u, s, ⟨h1, h2⟩, rfl⟩ := ht
    have a := zR_b hA.1 v
    have b := zR_b hB.1 u
    unfold za zs
    dsimp only
    omega
  have get : ∀ q, q < 4 → ∃ t : Z2, (-18 ≤ t.1 ∧ t.1 ≤ 18 ∧ -18 ≤ t.2 ∧ t.2 ≤ 18) ∧ 0 < (cr (if q = 0 then (0, 1) else if q = 1 then (-1, 0) else if q = 2 then (0, -1) else (1, 0)) (zP (x, y)) - cr (if q = 0 then (0, 1) else if q = 1 then (-1, 0) else if q = 2 then (0, -1) else (1, 0)) t) * b + a * cr (if q = 0 then (0, 1) else if q = 1 then (-1, 0) else if q = 2 then (0, -1) else (1, 0)) (zP (dx, dy)) := fun q hq => by
    obtain ⟨t, t1, t2⟩ := h _ (NR.ax A B hq)
    exact ⟨t, tb t t1, t2⟩
  have big : ∀ u : Int, u ≤ 300 → u * b ≤ 300 * b := fun u hu => Int.mul_le_mul_of_nonneg_right hu (Int.le_of_lt hb)
  obtain ⟨t0, b0, g0⟩ := get 0 (by omega)
  obtain ⟨t1, b1, g1⟩ := get 1 (by omega)
  obtain ⟨t2, b2, g2⟩ := get 2 (by omega)
  obtain ⟨t3, b3, g3⟩ := get 3 (by omega)
  have x0 : 0 < (t0.1 - x.toInt) * b - a * dx.toInt := by
    have e : ∀ w : Z2, cr (0, 1) w = -w.1 := fun w => by unfold cr; dsimp only; omega
    rw [if_pos rfl, e, e, e] at g0
    have : (-(zP (x, y)).1 - -t0.1) * b + a * -(zP (dx, dy)).1 = (t0.1 - x.toInt) * b - a * dx.toInt := by unfold zP; dsimp only; grind
    omega
  have x1 : 0 < (t1.2 - y.toInt) * b - a * dy.toInt := by
    have e : ∀ w : Z2, cr (-1, 0) w = -w.2 := fun w => by unfold cr; dsimp only; omega
    rw [if_neg (by decide), if_pos rfl, e, e, e] at g1
    have : (-(zP (x, y)).2 - -t1.2) * b + a * -(zP (dx, dy)).2 = (t1.2 - y.toInt) * b - a * dy.toInt := by unfold zP; dsimp only; grind
    omega
  have x2 : 0 < (x.toInt - t2.1) * b + a * dx.toInt := by
    have e : ∀ w : Z2, cr (0, -1) w = w.1 := fun w => by unfold cr; dsimp only; omega
    rw [if_neg (by decide), if_neg (by decide), if_pos rfl, e, e, e] at g2
    exact g2
  have x3 : 0 < (y.toInt - t3.2) * b + a * dy.toInt := by
    have e : ∀ w : Z2, cr (1, 0) w = w.2 := fun w => by unfold cr; dsimp only; omega
    rw [if_neg (by decide), if_neg (by decide), if_neg (by decide), e, e, e] at g3
    exact g3
  have y0 := big (t0.1 - x.toInt) (by omega)
  have y1 := big (t1.2 - y.toInt) (by omega)
  have y2 := big (x.toInt - t2.1) (by omega)
  have y3 := big (y.toInt - t3.2) (by omega)
  have hx : dx.toInt = 0 ∨ dx.toInt = 1 ∨ dx.toInt = -1 := by omega
  have hy : dy.toInt = 0 ∨ dy.toInt = 1 ∨ dy.toInt = -1 := by omega
  rcases hx with hx | hx | hx
  · rcases hy with hy | hy | hy
    · exact absurd ⟨hx, hy⟩ d5
    · rw [hy] at x1 x3; omega
    · rw [hy] at x1 x3; omega
  · rw [hx] at x0 x2; omega
  · rw [hx] at x0 x2; omega
theorem mt_spec (hA : RP A) (hB : RP B) (hp : Bd (x, y)) (hd : Dv (dx, dy)) : ((mtP A B x y dx dy).1 = false ∧ ∀ a b, 0 < b → ¬ FW A B (zP (x, y)) (zP (dx, dy)) a b) ∨ ∃ e b : FQ, Iv (FW A B (zP (x, y)) (zP (dx, dy))) (zE e b) ∧ Bm e b ∧ (mtP A B x y dx dy).2 = b ∧ ((mtP A B x y dx dy).1 = true ↔ 0 < (zE e b).2.2.1 ∧ (zE e b).1 * (zE e b).2.2.2 < (zE e b).2.2.1 * (zE e b).2.1) := by
  rcases mt_go hA hB hp hd (4 + A.length + B.length) 0 (100000, 1) (-100000, 1) ⟨⟨by decide, by decide⟩, by decide, by decide⟩ with ⟨h1, j, hj, h2, h3⟩ | ⟨e, b, h1, h2, h3, h4⟩
  · refine Or.inl ⟨h1, fun a b hb F => ?_⟩
    have f := (FW_all hA hB hb).mp F j (by omega)
    rw [h2, Int.mul_zero, Int.add_zero] at f
    have := Int.mul_nonpos_of_nonpos_of_nonneg h3 (Int.le_of_lt hb)
    omega
  · refine Or.inr ⟨e, b, ?_, h2, ?_, ?_⟩
    · have z : zE (100000, 1) (-100000, 1) = (-100000, 1, 100000, 1) := by decide
      rw [h3, z]
      have I := Iv.fold ((List.range' 0 (4 + A.length + B.length)).map (wE A B (zP (x, y)) (zP (dx, dy)))) _ _ iv_cap (fun c hc z => by
        obtain ⟨j, hj, rfl⟩ := List.mem_map.mp hc
        have := List.mem_range'_1.mp hj
        exact h4 j (by omega) (by omega) z)
      refine ⟨I.1, I.2.1, I.2.2.1, fun a b hb => Iff.trans ?_ (I.2.2.2 a b hb)⟩
      constructor
      · intro F
        refine ⟨FW_cap hA hB hp hd hb F, fun c hc => ?_⟩
        obtain ⟨j, hj, rfl⟩ := List.mem_map.mp hc
        have := List.mem_range'_1.mp hj
        exact (FW_all hA hB hb).mp F j (by omega)
      · rintro ⟨-, h⟩
        exact (FW_all hA hB hb).mpr fun k hk => h _ (List.mem_map.mpr ⟨k, List.mem_range'_1.mpr ⟨by omega, by omega⟩, rfl⟩)
    · unfold mtP; rw [h1]
    · unfold mtP
      rw [h1]
      obtain ⟨lo, lb⟩ := b
      obtain ⟨hi, hb⟩ := e
      obtain ⟨⟨b1, b2, b2'⟩, b3, b4, b4'⟩ := h2
      dsimp only at b1 b2 b2' b3 b4 b4'
      have m1 := i64_mulE (x := lo) (y := hb) ⟨by omega, by omega⟩ ⟨by omega, by omega⟩
      have m2 := i64_mulE (x := hi) (y := lb) ⟨by omega, by omega⟩ ⟨by omega, by omega⟩
      dsimp only
      rw [decide_eq_true_iff, i64_lt, i64_lt, m1, m2, i64_z]
      exact Iff.rfl
/-- a ray at one pair of pieces -/
theorem ray_pair (HA : CP A A') (HB : CP B B') (hp : Bq (x, y)) (hd : Dv (dx, dy)) : ((mtP A' B' x y dx dy).1 = false → entP (nfQ A B) x y dx dy = none) ∧ ((mtP A' B' x y dx dy).1 = true → ((-200000 ≤ (mtP A' B' x y dx dy).2.1.toInt ∧ (mtP A' B' x y dx dy).2.1.toInt ≤ 200000) ∧ 0 < (mtP A' B' x y dx dy).2.2.toInt ∧ (mtP A' B' x y dx dy).2.2.toInt ≤ 200000) ∧ ∃ lo lb : Int64, entP (nfQ A B) x y dx dy = some (if 0 < lo then lo else 0, lb) ∧ ((-200000 ≤ lo.toInt ∧ lo.toInt ≤ 200000) ∧ 0 < lb.toInt ∧ lb.toInt ≤ 200000) ∧ lo.toInt * (mtP A' B' x y dx dy).2.2.toInt = (mtP A' B' x y dx dy).2.1.toInt * lb.toInt ∧ (locP (nfQ A B) x y ≠ 2 → 0 ≤ lo.toInt)) := by
  obtain ⟨PV, M, H, D⟩ := nf_all HA HB
  have fe : ∀ a b, 0 < b → (FU (nfQ A B) (zP (x, y)) (zP (dx, dy)) a b ↔ FW A' B' (zP (x, y)) (zP (dx, dy)) a b) := fun a b hb => feas_iff H D hb
  have L := (loc_spec PV (bq_bd hp)).1
  rcases mt_spec HA.2 HB.2 (bq_bd hp) hd with ⟨r1, r2⟩ | ⟨e, b, R, Rb, r1, r2⟩
  · refine ⟨fun _ => ?_, fun q => by rw [r1] at q; exact absurd q (by decide)⟩
    rcases ent_spec PV hp hd with ⟨h1, h2⟩ | ⟨q, I, Q, h1⟩
    · exact h1
    · rw [h1]
      refine if_neg fun c => ?_
      obtain ⟨m0, m1, m2⟩ := iv_mid I.1.1 I.1.2 c.2
      exact r2 _ _ m0 ((fe _ _ m0).mp ((I.2.2.2 _ _ m0).mpr ⟨m1, m2⟩))
  · rcases ent_spec PV hp hd with ⟨h1, h2⟩ | ⟨q, I, Q, h1⟩
    · refine ⟨fun _ => h1, fun t => ?_⟩
      have c := r2.mp t
      obtain ⟨m0, m1, m2⟩ := iv_mid R.1.1 R.1.2 c.2
      exact absurd ((fe _ _ m0).mpr ((R.2.2.2 _ _ m0).mpr ⟨m1, m2⟩)) (h2 _ _ m0)
    · have R' : Iv (FU (nfQ A B) (zP (x, y)) (zP (dx, dy))) (zE e b) := ⟨R.1, R.2.1, R.2.2.1, fun a b hb => (fe a b hb).trans (R.2.2.2 a b hb)⟩
      obtain ⟨s1, s2⟩ := iv_same I R' ⟨Rb.1.2.1, Rb.2.2.1⟩
      have cond : (0 < (zQ q).2.2.1 ∧ (zQ q).1 * (zQ q).2.2.2 < (zQ q).2.2.1 * (zQ q).2.1) ↔ (0 < (zE e b).2.2.1 ∧ (zE e b).1 * (zE e b).2.2.2 < (zE e b).2.2.1 * (zE e b).2.1) := by
        constructor
        · rintro ⟨c1, c2⟩
          have c2' := s1.mp c2
          obtain ⟨⟨t1, t2⟩, t3, t4⟩ := s2 c2'
          exact ⟨(iv_sign t2 Rb.2.2.1 t4).mp c1, c2'⟩
        · rintro ⟨c1, c2⟩
          obtain ⟨⟨t1, t2⟩, t3, t4⟩ := s2 c2
          exact ⟨(iv_sign t2 Rb.2.2.1 t4).mpr c1, s1.mpr c2⟩
      refine ⟨fun f => ?_, fun t => ?_⟩
      · rw [h1]
        refine if_neg fun c => ?_
        rw [r2.mpr (cond.mp c)] at f
        exact absurd f (by decide)
      · have c := r2.mp t
        have c' := cond.mpr c
        obtain ⟨⟨t1, t2⟩, t3, t4⟩ := s2 c.2
        rw [r1]
        refine ⟨⟨Rb.1.1, Rb.1.2⟩, q.1, q.2.1, by rw [h1, if_pos c'], ⟨Q.1.1, t1, Q.1.2.2⟩, t3, fun nl => ?_⟩
        by_cases z : 0 ≤ q.1.toInt
        · exact z
        · exfalso
          have f : FU (nfQ A B) (zP (x, y)) (zP (dx, dy)) 0 1 := (I.2.2.2 0 1 (by decide)).mpr ⟨by
            show q.1.toInt * 1 < 0 * q.2.1.toInt
            omega, by
            have : 0 < q.2.2.1.toInt := c'.1
            show 0 * q.2.2.2.toInt < q.2.2.1.toInt * 1
            omega⟩
          refine nl (L.mpr fun k => ?_)
          have := f k
          omega
end RB
