/-! the times at which a ray is inside: an interval between two fractions -/
theorem lt_cancel {a b c : Int} (h : 0 < c) (x : c * a < c * b) : a < b := by
  by_cases q : a < b
  · exact q
  · have := Int.mul_le_mul_of_nonneg_left (show b ≤ a by omega) (Int.le_of_lt h); omega
abbrev Q4I : Type := Int × Int × Int × Int
def Iv (F : Int → Int → Prop) (q : Q4I) : Prop := (0 ≤ q.2.1 ∧ 0 ≤ q.2.2.2) ∧ (q.2.1 = 0 → q.1 = -1) ∧ (q.2.2.2 = 0 → q.2.2.1 = 1) ∧ ∀ a b, 0 < b → (F a b ↔ q.1 * b < a * q.2.1 ∧ a * q.2.2.2 < q.2.2.1 * b)
abbrev loB (q : Q4I) (c : Int × Int) : Prop := 0 < c.2 ∧ q.1 * c.2 < -c.1 * q.2.1
abbrev hiB (q : Q4I) (c : Int × Int) : Prop := c.2 < 0 ∧ c.1 * q.2.2.2 < q.2.2.1 * -c.2
def eI (q : Q4I) (c : Int × Int) : Q4I := (if loB q c then -c.1 else q.1, if loB q c then c.2 else q.2.1, if hiB q c then c.1 else q.2.2.1, if hiB q c then -c.2 else q.2.2.2)
theorem Iv.step {F : Int → Int → Prop} {q : Q4I} {c : Int × Int} (H : Iv F q) (z : c.2 = 0 → 0 < c.1) : Iv (fun a b => F a b ∧ 0 < c.1 * b + a * c.2) (eI q c) := by
  obtain ⟨lo, lb, hi, hb⟩ := q
  obtain ⟨s, g⟩ := c
  obtain ⟨⟨p1, p2⟩, h1, h2, h⟩ := H
  dsimp only at p1 p2 h1 h2 h z
  unfold eI
  rcases Int.lt_trichotomy g 0 with c | c | c
  · have nl : ¬ loB (lo, lb, hi, hb) (s, g) := fun q => by have := q.1; dsimp only at this; omega
    rw [if_neg nl, if_neg nl]
    by_cases d : hiB (lo, lb, hi, hb) (s, g)
    · rw [if_pos d, if_pos d]
      have d2 := d.2
      dsimp only at d2
      refine ⟨⟨p1, by dsimp only; omega⟩, h1, fun q => by dsimp only at q; omega, fun a b hb' => ?_⟩
      dsimp only
      rw [h a b hb']
      have e : a * -g = -(a * g) := Int.mul_neg ..
      have key : 0 < s * b + a * g → a * hb < hi * b := fun x => by
        by_cases zb : hb = 0
        · subst zb; rw [h2 rfl]; omega
        · have m1 := Int.mul_lt_mul_of_pos_left (show a * -g < s * b by omega) (show 0 < hb by omega)
          have m2 := Int.mul_lt_mul_of_pos_right d2 hb'
          refine lt_cancel (show 0 < -g by omega) ?_
          have g1 : hb * (a * -g) = -g * (a * hb) := by grind
          have g2 : hb * (s * b) = s * hb * b := by grind
          have g3 : -g * (hi * b) = hi * -g * b := by grind
          omega
      constructor
      · rintro ⟨⟨x1, x2⟩, x3⟩
        exact ⟨x1, by omega⟩
      · rintro ⟨x1, x2⟩
        exact ⟨⟨x1, key (by omega)⟩, by omega⟩
    · rw [if_neg d, if_neg d]
      refine ⟨⟨p1, p2⟩, h1, h2, fun a b hb' => ?_⟩
      dsimp only
      rw [h a b hb']
      have dn : hi * -g ≤ s * hb := by
        by_cases q : s * hb < hi * -g
        · exact absurd ⟨c, q⟩ d
        · omega
      refine ⟨fun x => x.1, fun x => ⟨x, ?_⟩⟩
      have hb0 : 0 < hb := by
        by_cases zb : hb = 0
        · subst zb; rw [h2 rfl] at dn; omega
        · omega
      have m1 := Int.mul_le_mul_of_nonneg_right dn (Int.le_of_lt hb')
      have m2 := Int.mul_lt_mul_of_pos_left x.2 (show 0 < -g by omega)
      refine pos_of_mul hb0 ?_
      have g1 : hb * (s * b + a * g) = s * hb * b - -g * (a * hb) := by grind
      have g2 : -g * (hi * b) = hi * -g * b := by grind
      omega
  · subst c
    have nl : ¬ loB (lo, lb, hi, hb) (s, 0) := fun q => by have := q.1; dsimp only at this; omega
    have nh : ¬ hiB (lo, lb, hi, hb) (s, 0) := fun q => by have := q.1; dsimp only at this; omega
    rw [if_neg nl, if_neg nl, if_neg nh, if_neg nh]
    refine ⟨⟨p1, p2⟩, h1, h2, fun a b hb' => ?_⟩
    dsimp only
    rw [h a b hb', Int.mul_zero, Int.add_zero]
    exact ⟨fun x => x.1, fun x => ⟨x, Int.mul_pos (z rfl) hb'⟩⟩
  · have nh : ¬ hiB (lo, lb, hi, hb) (s, g) := fun q => by have := q.1; dsimp only at this; omega
    rw [if_neg nh, if_neg nh]
    by_cases d : loB (lo, lb, hi, hb) (s, g)
    · rw [if_pos d, if_pos d]
      have d2 := d.2
      dsimp only at d2
      refine ⟨⟨by dsimp only; omega, p2⟩, fun q => by dsimp only at q; omega, h2, fun a b hb' => ?_⟩
      dsimp only
      rw [h a b hb']
      have e : -s * b = -(s * b) := Int.neg_mul ..
      have key : 0 < s * b + a * g → lo * b < a * lb := fun x => by
        by_cases zb : lb = 0
        · subst zb; rw [h1 rfl]; omega
        · have m1 := Int.mul_lt_mul_of_pos_left (show -s * b < a * g by omega) (show 0 < lb by omega)
          have m2 := Int.mul_lt_mul_of_pos_right d2 hb'
          refine lt_cancel c ?_
          have g1 : lb * (-s * b) = -s * lb * b := by grind
          have g2 : lb * (a * g) = g * (a * lb) := by grind
          have g3 : g * (lo * b) = lo * g * b := by grind
          omega
      constructor
      · rintro ⟨⟨x1, x2⟩, x3⟩
        exact ⟨by omega, x2⟩
      · rintro ⟨x1, x2⟩
        exact ⟨⟨key (by omega), x2⟩, by omega⟩
    · rw [if_neg d, if_neg d]
      refine ⟨⟨p1, p2⟩, h1, h2, fun a b hb' => ?_⟩
      dsimp only
      rw [h a b hb']
      have dn : -s * lb ≤ lo * g := by
        by_cases q : lo * g < -s * lb
        · exact absurd ⟨c, q⟩ d
        · omega
      refine ⟨fun x => x.1, fun x => ⟨x, ?_⟩⟩
      have lb0 : 0 < lb := by
        by_cases zb : lb = 0
        · subst zb; rw [h1 rfl] at dn; omega
        · omega
      have m1 := Int.mul_le_mul_of_nonneg_right dn (Int.le_of_lt hb')
      have m2 := Int.mul_lt_mul_of_pos_left x.1 c
      refine pos_of_mul lb0 ?_
      have g1 : lb * (s * b + a * g) = -(-s * lb * b) + g * (a * lb) := by grind
      have g2 : g * (lo * b) = lo * g * b := by grind
      omega
theorem Iv.fold : ∀ (L : List (Int × Int)) (F : Int → Int → Prop) (q : Q4I), Iv F q → (∀ c, c ∈ L → c.2 = 0 → 0 < c.1) → Iv (fun a b => F a b ∧ ∀ c, c ∈ L → 0 < c.1 * b + a * c.2) (L.foldl eI q) := fun L => by
  induction L with
  | nil =>
    intro F q H _
    exact ⟨H.1, H.2.1, H.2.2.1, fun a b hb => Iff.trans ⟨fun x => x.1, fun x => ⟨x, fun c hc => by simp at hc⟩⟩ (H.2.2.2 a b hb)⟩
  | cons c L ih =>
    intro F q H z
    have s := ih _ _ (H.step (z c (List.mem_cons_self ..))) fun c' hc => z c' (List.mem_cons_of_mem _ hc)
    refine ⟨s.1, s.2.1, s.2.2.1, fun a b hb => ?_⟩
    have e := s.2.2.2 a b hb
    refine Iff.trans ?_ e
    constructor
    · rintro ⟨x1, x2⟩
      exact ⟨⟨x1, x2 c (List.mem_cons_self ..)⟩, fun c' hc => x2 c' (List.mem_cons_of_mem _ hc)⟩
    · rintro ⟨⟨x1, x2⟩, x3⟩
      refine ⟨x1, fun c' hc => ?_⟩
      rcases List.mem_cons.mp hc with rfl | hc
      · exact x2
      · exact x3 c' hc
theorem iv_start : Iv (fun _ _ => True) (-1, 0, 1, 0) := ⟨⟨Int.le_refl _, Int.le_refl _⟩, fun _ => rfl, fun _ => rfl, fun a b hb => by dsimp only; exact ⟨fun _ => ⟨by omega, by omega⟩, fun _ => trivial⟩⟩
theorem iv_cap : Iv (fun a b => -100000 * b < a ∧ a < 100000 * b) (-100000, 1, 100000, 1) := ⟨⟨by decide, by decide⟩, fun h => by simp at h, fun h => by simp at h, fun a b hb => by dsimp only; rw [Int.mul_one]⟩
theorem iv_mid {lo lb hi hb : Int} (p1 : 0 ≤ lb) (p2 : 0 ≤ hb) (c : lo * hb < hi * lb) : 0 < lb + hb ∧ lo * (lb + hb) < (lo + hi) * lb ∧ (lo + hi) * hb < hi * (lb + hb) := by
  have e1 : lo * (lb + hb) = lo * lb + lo * hb := Int.mul_add ..
  have e2 : (lo + hi) * lb = lo * lb + hi * lb := Int.add_mul ..
  have e3 : (lo + hi) * hb = lo * hb + hi * hb := Int.add_mul ..
  have e4 : hi * (lb + hb) = hi * lb + hi * hb := Int.mul_add ..
  refine ⟨?_, by omega, by omega⟩
  by_cases q : 0 < lb + hb
  · exact q
  · exfalso
    have z1 : lb = 0 := by omega
    have z2 : hb = 0 := by omega
    subst z1; subst z2
    omega
/-- one set of times between two pairs of ends: the ends agree -/
theorem iv_same {F : Int → Int → Prop} {q r : Q4I} (H : Iv F q) (R : Iv F r) (rp : 0 < r.2.1 ∧ 0 < r.2.2.2) : (q.1 * q.2.2.2 < q.2.2.1 * q.2.1 ↔ r.1 * r.2.2.2 < r.2.2.1 * r.2.1) ∧ (r.1 * r.2.2.2 < r.2.2.1 * r.2.1 → (0 < q.2.1 ∧ 0 < q.2.2.2) ∧ q.1 * r.2.1 = r.1 * q.2.1 ∧ q.2.2.1 * r.2.2.2 = r.2.2.1 * q.2.2.2) := by
  obtain ⟨lo, lb, hi, hb⟩ := q
  obtain ⟨lo', lb', hi', hb'⟩ := r
  obtain ⟨⟨p1, p2⟩, h1, h2, h⟩ := H
  obtain ⟨-, -, -, r⟩ := R
  obtain ⟨r1, r2⟩ := rp
  dsimp only at *
  -- a point between two ends
  have ab : ∀ {x y a b : Int}, 0 < y → 0 < b → x * b < a * y → ∀ {u v : Int}, 0 ≤ v → a * v < u * b → x * v < u * y := fun {x y a b} hy hb0 l1 {u v} hv l2 => by
    by_cases v0 : v = 0
    · subst v0
      have := Int.mul_pos (pos_of_mul (a := b) (b := u) hb0 (by rw [Int.mul_comm]; omega)) hy
      omega
    · have m1 := Int.mul_lt_mul_of_pos_right l1 (show 0 < v by omega)
      have m2 := Int.mul_lt_mul_of_pos_left l2 hy
      refine lt_cancel hb0 ?_
      have g1 : b * (x * v) = x * b * v := by grind
      have g2 : a * y * v = y * (a * v) := by grind
      have g3 : b * (u * y) = y * (u * b) := by grind
      omega
  have two : lo' * hb' < hi' * lb' → (0 < lb ∧ 0 < hb) ∧ lo * lb' = lo' * lb ∧ hi * hb' = hi' * hb := fun c => by
    obtain ⟨m0, m1, m2⟩ := iv_mid (Int.le_of_lt r1) (Int.le_of_lt r2) c
    have f := (r _ _ m0).mpr ⟨m1, m2⟩
    obtain ⟨f1, f2⟩ := (h _ _ m0).mp f
    generalize lo' + hi' = A at *
    generalize lb' + hb' = B at *
    have lb0 : 0 < lb := by
      by_cases z : lb = 0
      · exfalso
        have e := h1 z
        subst z
        have x := ab (x := lo' - lb') (y := lb') r1 m0 (by rw [Int.sub_mul]; have := Int.mul_pos r1 m0; omega) p2 f2
        have fx := (r (lo' - lb') lb' r1).mp ((h _ _ r1).mpr ⟨by rw [e]; omega, x⟩)
        have := Int.mul_pos r1 r1
        rw [Int.sub_mul] at fx
        omega
      · omega
    have hb0 : 0 < hb := by
      by_cases z : hb = 0
      · exfalso
        have e := h2 z
        subst z
        have x : lo * hb' < (hi' + hb') * lb := by
          have := ab lb0 m0 f1 (Int.le_of_lt r2) m2
          have := Int.mul_pos r2 lb0
          rw [Int.add_mul]; omega
        have fx := (r (hi' + hb') hb' r2).mp ((h _ _ r2).mpr ⟨x, by rw [e]; omega⟩)
        have := Int.mul_pos r2 r2
        have e9 := Int.add_mul hi' hb' hb'
        omega
      · omega
    refine ⟨⟨lb0, hb0⟩, ?_, ?_⟩
    · by_cases c1 : lo * lb' < lo' * lb
      · exfalso
        have x := ab (x := lo') (y := lb') r1 m0 m1 p2 f2
        have fx := (r lo' lb' r1).mp ((h _ _ r1).mpr ⟨c1, x⟩)
        omega
      · by_cases c2 : lo' * lb < lo * lb'
        · exfalso
          have x := ab lb0 m0 f1 (Int.le_of_lt r2) m2
          have fx := (h lo lb lb0).mp ((r _ _ lb0).mpr ⟨c2, x⟩)
          omega
        · omega
    · by_cases c1 : hi' * hb < hi * hb'
      · exfalso
        have x := ab lb0 m0 f1 (u := hi') (v := hb') (Int.le_of_lt r2) m2
        have fx := (r hi' hb' r2).mp ((h _ _ r2).mpr ⟨x, by omega⟩)
        omega
      · by_cases c2 : hi * hb' < hi' * hb
        · exfalso
          have x := ab (x := lo') (y := lb') r1 m0 m1 p2 f2
          have fx := (h hi hb hb0).mp ((r _ _ hb0).mpr ⟨x, by omega⟩)
          omega
        · omega
  refine ⟨⟨fun c => ?_, fun c => ?_⟩, two⟩
  · obtain ⟨m0, m1, m2⟩ := iv_mid p1 p2 c
    obtain ⟨f1, f2⟩ := (r _ _ m0).mp ((h _ _ m0).mpr ⟨m1, m2⟩)
    exact ab r1 m0 f1 (Int.le_of_lt r2) f2
  · obtain ⟨⟨a, b⟩, e1, e2⟩ := two c
    obtain ⟨m0, m1, m2⟩ := iv_mid (Int.le_of_lt r1) (Int.le_of_lt r2) c
    obtain ⟨f1, f2⟩ := (h _ _ m0).mp ((r _ _ m0).mpr ⟨m1, m2⟩)
    exact ab a m0 f1 (Int.le_of_lt b) f2
theorem iv_sign {x y u v : Int} (hy : 0 < y) (hv : 0 < v) (e : x * v = u * y) : 0 < x ↔ 0 < u := by
  constructor
  · intro h
    have := Int.mul_pos h hv
    exact pos_of_mul hy (by rw [Int.mul_comm]; omega)
  · intro h
    have := Int.mul_pos h hy
    exact pos_of_mul hv (by rw [Int.mul_comm]; omega)
