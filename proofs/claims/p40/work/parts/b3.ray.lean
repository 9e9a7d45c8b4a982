/-! the times at which a ray is inside: an interval between two fractions -/
theorem lt_cancel {a b c : Int} (h : 0 < c) (x : c * a < c * b) : a < b := by
  by_cases q : a < b
  · exact q
  · have := Int.mul_le_mul_of_nonneg_left (show b ≤ a by omega) (Int.le_of_lt h); omega
abbrev Q4I : Type := Int × Int × Int × Int
def Iv (F : Int → Int → Prop) (q : Q4I) : Prop := (0 ≤ q.2.1 ∧ 0 ≤ q.2.2.2) ∧ (q.2.1 = 0 → q.1 = -1) ∧ (q.2.2.2 = 0 → q.2.2.1 = 1) ∧ ∀ a b, 0 < b → (F a b ↔ q.1 * b < a * q.2.1 ∧ a * q.2.2.2 < q.2.2.1 * b)
abbrev loB (q : Q4I) (c : Int × Int) : Prop := 0 < c.2 ∧ q.1 * c.2 < -c.1 * q.2.1
abbrev hiB (q : Q4I) (c : Int × Int) : Prop := c.2 < 0 ∧ c.1 * q.2.2.2 < q.2.2.1 * -c.2
def eI (q : Q4I) (c : Int × Int) : Q4I := (if loB q c then -c.1 else q.1, if loB q c then c.2 else q.2.1, if hiB q c then c.1 else q.2.2.1, if hiB q c then -c.2 else q.2.2.2)
theorem Iv.step {F : Int → Int → Prop} {q : Q4I} {c : Int × Int} (H : Iv F q) (z : c.2 = 0 → 0 < c.1) : Iv (fun a b => F a b ∧ 0 < c.1 * b + a * c.2) (eI q c) := by
  obtain ⟨lo, lb, hi, hb⟩ := q
  obtain ⟨s, g⟩ := c
  obtain ⟨⟨p1, p2⟩, h1, h2, h⟩ := H
  dsimp only at p1 p2 h1 h2 h z
  unfold eI
  rcases Int.lt_trichotomy g 0 with c | c | c
  · have nl : ¬ loB (lo, lb, hi, hb) (s, g) := fun q => by have := q.1; dsimp only at this; omega
    rw [if_neg nl, if_neg nl]
    by_cases d : hiB (lo, lb, hi, hb) (s, g)
    · rw [if_pos d, if_pos d]
      have d2 := d.2
      dsimp only at d2
      refine ⟨⟨p1, by dsimp only; omega⟩, h1, fun q => by dsimp only at q; omega, fun a b hb' => ?_⟩
      dsimp only
      rw [h a b hb']
      have e : a * -g = -(a * g) := Int.mul_neg ..
      have key : 0 < s * b + a * g → a * hb < hi * b := fun x => by
        by_cases zb : hb = 0
        · subst zb; rw [h2 rfl]; omega
        · have m1 := Int.mul_lt_mul_of_pos_left (show a * -g < s * b by omega) (show 0 < hb by omega)
          have m2 := Int.mul_lt_mul_of_pos_right d2 hb'
          refine lt_cancel (show 0 < -g by omega) ?_
          have g1 : hb * (a * -g) = -g * (a * hb) := by grind
          have g2 : hb * (s * b) = s * hb * b := by grind
          have g3 : -g * (hi * b) = hi * -g * b := by grind
          omega
      constructor
      · rintro ⟨⟨x1, x2⟩, x3⟩
        exact ⟨x1, by omega⟩
      · rintro ⟨x1, x2⟩
        exact ⟨⟨x1, key (by omega)⟩, by omega⟩
    · rw [if_neg d, if_neg d]
      refine ⟨⟨p1, p2⟩, h1, h2, fun a b hb' => ?_⟩
      dsimp only
      rw [h a b hb']
      have dn : hi * -g ≤ s * hb := by
        by_cases q : s * hb < hi * -g
        · exact absurd ⟨c, q⟩ d
        · omega
      refine ⟨fun x => x.1, fun x => ⟨x, ?_⟩⟩
      have hb0 : 0 < hb := by
        by_cases zb : hb = 0
        · subst zb; rw [h2 rfl] at dn; omega
        · omega
      have m1 := Int.mul_le_mul_of_nonneg_right dn (Int.le_of_lt hb')
      have m2 := Int.mul_lt_mul_of_pos_left x.2 (show 0 < -g by omega)
      refine pos_of_mul hb0 ?_
      have g1 : hb * (s * b + a * g) = s * hb * b - -g * (a * hb) := by grind
      have g2 : -g * (hi * b) = hi * -g * b := by grind
      omega
  · subst c
    have nl : ¬ loB (lo, lb, hi, hb) (s, 0) := fun q => by have := q.1; dsimp only at this; omega
    have nh : ¬ hiB (lo, lb, hi, hb) (s, 0) := fun q => by have := q.1; dsimp only at this; omega
    rw [if_neg nl, if_neg nl, if_neg nh, if_neg nh]
    refine ⟨⟨p1, p2⟩, h1, h2, fun a b hb' => ?_⟩
    dsimp only
    rw [h a b hb', Int.mul_zero, Int.add_zero]
    exact ⟨fun x => x.1, fun x => ⟨x, Int.mul_pos (z rfl) hb'⟩⟩
  · have nh : ¬ hiB (lo, lb, hi, hb) (s, g) := fun q => by have := q.1; dsimp only at this; omega
    rw [if_neg nh, if_neg nh]
    by_cases d : loB (lo, lb, hi, hb) (s, g)
    · rw [if_pos d, if_pos d]
      have d2 := d.2
      dsimp only at d2
      refine ⟨⟨by dsimp only; omega, p2⟩, fun q => by dsimp only at q; omega, h2, fun a b hb' => ?_⟩
      dsimp only
      rw [h a b hb']
      have e : -s * b = -(s * b) := Int.neg_mul ..
      have key : 0 < s * b + a * g → lo * b < a * lb := fun x => by
        by_cases zb : lb = 0
        · subst zb; rw [h1 rfl]; omega
        · have m1 := Int.mul_lt_mul_of_pos_left (show -s * b < a * g by omega) (show 0 < lb by omega)
          have m2 := Int.mul_lt_mul_of_pos_right d2 hb'
          refine lt_cancel c ?_
          have g1 : lb * (-s * b) = -s * lb * b := by grind
          have g2 : lb * (a * g) = g * (a * lb) := by grind
          have g3 : g * (lo * b) = lo * g * b := by grind
          omega
      constructor
      · rintro ⟨⟨x1, x2⟩, x3⟩
        exact ⟨by omega, x2⟩
      · rintro ⟨x1, x2⟩
        exact ⟨⟨key (by omega), x2⟩, by omega⟩
    · rw [if_neg d, if_neg d]
      refine ⟨⟨p1, p2⟩, h1, h2, fun a b hb' => ?_⟩
      dsimp only
      rw [h a b hb']
      have dn : -s * lb ≤ lo * g := by
        by_cases q : lo * g < -s * lb
        · exact absurd ⟨c, q⟩ d
        · omega
      refine ⟨fun x => x.1, fun x => ⟨x, ?_⟩⟩
      have lb0 : 0 < lb := by
        by_cases zb : lb = 0
        · subst zb; rw [h1 rfl] at dn; omega
        · omega
      have m1 := Int.mul_le_mul_of_nonneg_right dn (Int.le_of_lt hb')
      have m2 := Int.mul_lt_mul_of_pos_left x.1 c
      refine pos_of_mul lb0 ?_
      have g1 : lb * (s * b + a * g) = -(-s * lb * b) + g * (a * lb) := by grind
      have g2 : g * (lo * b) = lo * g * b := by grind
      omega
