/-! fractions: Int64 and Int, lowest terms, the least of candidates -/
theorem bmod64 {x : Int} (h1 : -9223372036854775808 ≤ x) (h2 : x < 9223372036854775808) : x.bmod 18446744073709551616 = x := by
  have e : ((18446744073709551616 : Nat) : Int) = 18446744073709551616 := rfl
  simp only [Int.bmod, e]; omega
def Bj (x : Int64) : Prop := -2147483648 ≤ x.toInt ∧ x.toInt ≤ 2147483648
theorem i64_mulE {x y : Int64} (hx : Bj x) (hy : Bj y) : (x * y).toInt = x.toInt * y.toInt := by
  have b := mul_bd hx.1 hx.2 hy.1 hy.2
  rw [Int64.toInt_mul]
  exact bmod64 (by omega) (by omega)
theorem i64_addE {x y : Int64} (hx : Bj x) (hy : Bj y) : (x + y).toInt = x.toInt + y.toInt := by
  obtain ⟨a, b⟩ := hx
  obtain ⟨c, d⟩ := hy
  rw [Int64.toInt_add]
  exact bmod64 (by omega) (by omega)
theorem i64_subE {x y : Int64} (hx : Bj x) (hy : Bj y) : (x - y).toInt = x.toInt - y.toInt := by
  obtain ⟨a, b⟩ := hx
  obtain ⟨c, d⟩ := hy
  rw [Int64.toInt_sub]
  exact bmod64 (by omega) (by omega)
theorem i64_lt {x y : Int64} : x < y ↔ x.toInt < y.toInt := Int64.lt_iff_toInt_lt
theorem i64_eq {x y : Int64} : x = y ↔ x.toInt = y.toInt := Int64.toInt_inj.symm
theorem i64_w (x : Int32) : x.toInt64.toInt = x.toInt := Int32.toInt_toInt64 x
theorem i64_z : (0 : Int64).toInt = 0 := by decide
theorem i64_div {a b : Nat} (ha : a < 4611686018427387904) (hb : b < 4611686018427387904) : Int64.ofNat a / Int64.ofNat b = Int64.ofNat (a / b) := by
  have le := Nat.div_le_self a b
  rw [← Int64.toInt_inj, Int64.toInt_div, i64_n ha, i64_n hb, i64_n (by omega), ← Int.ofNat_tdiv]
  have := i64_n (n := a / b) (by omega)
  rw [Int64.toInt_ofNat'] at this; exact this
theorem gcd_half {u v r : Nat} (hr : r = u % v) (h0 : 0 < r) : 2 * (v % r) < v ∨ v = 0 := by
  by_cases c : v = 0
  · exact Or.inr c
  · have h1 : r < v := by rw [hr]; exact Nat.mod_lt _ (by omega)
    have h2 := Nat.mod_lt v h0
    have h3 := Nat.mod_add_div v r
    have h4 : 1 ≤ v / r := Nat.div_pos (by omega) h0
    have h5 := Nat.mul_le_mul_left r h4
    omega
theorem gcdG_spec : ∀ k t u v, u < 4611686018427387904 → v < 4611686018427387904 → v < 2 ^ k → 2 * k + 1 ≤ t → gcdG t (Int64.ofNat u) (Int64.ofNat v) = Int64.ofNat (Nat.gcd u v) := fun k => by
  have z : ∀ t u v, v = 0 → 1 ≤ t → gcdG t (Int64.ofNat u) (Int64.ofNat v) = Int64.ofNat (Nat.gcd u v) := fun t u v h ht => by
    subst h
    obtain ⟨t, rfl⟩ : ∃ s, t = s + 1 := ⟨t - 1, by omega⟩
    show (if _ then _ else _) = _
    rw [if_pos (show Int64.ofNat 0 = 0 from rfl), Nat.gcd_zero_right]
  have one : ∀ t u v, u < 4611686018427387904 → v < 4611686018427387904 → v ≠ 0 → gcdG (t + 1) (Int64.ofNat u) (Int64.ofNat v) = gcdG t (Int64.ofNat v) (Int64.ofNat (u % v)) := fun t u v hu hv h => by
    show (if _ then _ else _) = _
    rw [if_neg fun q : Int64.ofNat v = 0 => h (i64_inj (n := 0) hv (by omega) q), i64_rem hu hv]
  have gc : ∀ u v, Nat.gcd v (u % v) = Nat.gcd u v := fun u v => by
    rw [Nat.gcd_comm v, ← Nat.gcd_rec, Nat.gcd_comm]
  induction k with
  | zero => intro t u v hu hv h ht; exact z t u v (by omega) (by omega)
  | succ k ih =>
    intro t u v hu hv h ht
    by_cases c : v = 0
    · exact z t u v c (by omega)
    · obtain ⟨t, rfl⟩ : ∃ s, t = s + 2 := ⟨t - 2, by omega⟩
      have hm := Nat.mod_lt u (show v > 0 by omega)
      rw [show t + 2 = (t + 1) + 1 by omega, one _ u v hu hv c, ← gc]
      by_cases d : u % v = 0
      · exact z _ _ _ d (by omega)
      · have hm2 := Nat.mod_lt v (show u % v > 0 by omega)
        rw [one _ v (u % v) hv (by omega) d, ← gc v]
        refine ih _ _ _ (by omega) (by omega) ?_ (by omega)
        have := gcd_half (u := u) (v := v) rfl (by omega)
        rw [Nat.pow_succ] at h
        omega
theorem low_terms {u v u' v' : Nat} (h : u * v' = u' * v) (h1 : 0 < v) (h2 : 0 < v') : u / Nat.gcd u v = u' / Nat.gcd u' v' ∧ v / Nat.gcd u v = v' / Nat.gcd u' v' := by
  have g1 : 0 < Nat.gcd u v := Nat.gcd_pos_of_pos_right _ h1
  have g2 : 0 < Nat.gcd u' v' := Nat.gcd_pos_of_pos_right _ h2
  obtain ⟨a, ha⟩ := Nat.gcd_dvd_left u v
  obtain ⟨b, hb⟩ := Nat.gcd_dvd_right u v
  obtain ⟨a', ha'⟩ := Nat.gcd_dvd_left u' v'
  obtain ⟨b', hb'⟩ := Nat.gcd_dvd_right u' v'
  have c1 : Nat.Coprime a b := by
    have := Nat.coprime_div_gcd_div_gcd g1
    rw [show u / Nat.gcd u v = a by rw [Nat.div_eq_of_eq_mul_right g1 ha], show v / Nat.gcd u v = b by rw [Nat.div_eq_of_eq_mul_right g1 hb]] at this
    exact this
  have c2 : Nat.Coprime a' b' := by
    have := Nat.coprime_div_gcd_div_gcd g2
    rw [show u' / Nat.gcd u' v' = a' by rw [Nat.div_eq_of_eq_mul_right g2 ha'], show v' / Nat.gcd u' v' = b' by rw [Nat.div_eq_of_eq_mul_right g2 hb']] at this
    exact this
  rw [Nat.div_eq_of_eq_mul_right g1 ha, Nat.div_eq_of_eq_mul_right g1 hb, Nat.div_eq_of_eq_mul_right g2 ha', Nat.div_eq_of_eq_mul_right g2 hb']
  generalize Nat.gcd u v = g at *
  generalize Nat.gcd u' v' = g' at *
  have key : a * b' = a' * b := by
    have : (g * g') * (a * b') = (g * g') * (a' * b) := by
      have l : u * v' = (g * g') * (a * b') := by rw [ha, hb', Nat.mul_mul_mul_comm]
      have r : u' * v = (g * g') * (a' * b) := by rw [ha', hb, Nat.mul_mul_mul_comm, Nat.mul_comm g' g]
      rw [← l, ← r]; exact h
    exact Nat.eq_of_mul_eq_mul_left (Nat.mul_pos g1 g2) this
  have b0 : 0 < b := by
    by_cases q : b = 0
    · rw [q, Nat.mul_zero] at hb; omega
    · omega
  have d1 : a ∣ a' := c1.dvd_of_dvd_mul_right (by rw [← key]; exact ⟨b', rfl⟩)
  have d2 : a' ∣ a := c2.dvd_of_dvd_mul_right (by rw [key]; exact ⟨b, rfl⟩)
  have e := Nat.dvd_antisymm d1 d2
  refine ⟨e, ?_⟩
  subst e
  by_cases q : a = 0
  · subst q
    have x1 : b = 1 := by rw [Nat.coprime_zero_left] at c1; exact c1
    have x2 : b' = 1 := by rw [Nat.coprime_zero_left] at c2; exact c2
    rw [x1, x2]
  · exact (Nat.eq_of_mul_eq_mul_left (by omega) key).symm
/-- two fractions of one value have one numerator and one denominator in lowest terms -/
theorem part_same {f g : FQ} (F : OkQ f) (G : OkQ g) (h : f.1.toInt * g.2.toInt = g.1.toInt * f.2.toInt) (p : Int32) : partF f p = rPart g p := by
  obtain ⟨⟨f1, f2⟩, f3, f4⟩ := F
  obtain ⟨⟨g1, g2⟩, g3, g4⟩ := G
  obtain ⟨u, hu⟩ : ∃ u : Nat, u = f.1.toInt.toNat := ⟨_, rfl⟩
  obtain ⟨v, hv⟩ : ∃ v : Nat, v = f.2.toInt.toNat := ⟨_, rfl⟩
  have eu : f.1 = Int64.ofNat u := by rw [hu]; exact i64_of f1 f2
  have ev : f.2 = Int64.ofNat v := by rw [hv]; exact i64_of (by omega) f4
  have hu2 : u < 4611686018427387904 := by omega
  have hv2 : v < 4611686018427387904 := by omega
  have v0 : 0 < v := by omega
  have gp : 0 < Nat.gcd u v := Nat.gcd_pos_of_pos_right _ v0
  have gl : Nat.gcd u v ≤ v := Nat.gcd_le_right _ v0
  have cd : cdF f = Int64.ofNat (Nat.gcd u v) := by
    unfold cdF
    rw [eu, ev]
    exact gcdG_spec 62 1000000 u v hu2 hv2 (by omega) (by omega)
  have ne : Int64.ofNat (Nat.gcd u v) ≠ 0 := fun q => by
    have := i64_inj (n := 0) (by omega) (by omega) q
    omega
  have hg : 0 < Nat.gcd g.1.toInt.toNat g.2.toInt.toNat := Nat.gcd_pos_of_pos_right _ (by omega)
  have hgl : Nat.gcd g.1.toInt.toNat g.2.toInt.toNat ≤ g.2.toInt.toNat := Nat.gcd_le_right _ (by omega)
  have hn : u * g.2.toInt.toNat = g.1.toInt.toNat * v := by
    rw [hu, hv]
    apply Int.ofNat_inj.mp
    rw [Int.natCast_mul, Int.natCast_mul, Int.toNat_of_nonneg f1, Int.toNat_of_nonneg (by omega), Int.toNat_of_nonneg g1, Int.toNat_of_nonneg (by omega)]
    exact h
  obtain ⟨l1, l2⟩ := low_terms hn v0 (by omega)
  unfold partF rPart partN
  rw [cd, if_neg ne]
  by_cases c : p = 0
  · rw [if_pos c, if_pos c, eu, i64_div hu2 (by omega), i64_div (by omega) (by omega), l1]
  · rw [if_neg c, if_neg c, ev, i64_div hv2 (by omega), i64_div (by omega) (by omega), l2]
/-! the least of candidates -/
abbrev F2 : Type := Int × Int
def zF (f : FQ) : F2 := (f.1.toInt, f.2.toInt)
def Mn (C : Int → Int → Prop) (f : F2) : Prop := (∀ N D, C N D → 0 ≤ N ∧ 0 < D) ∧ ((f.2 = 0 ∧ ∀ N D, ¬ C N D) ∨ (0 < f.2 ∧ C f.1 f.2 ∧ ∀ N D, C N D → f.1 * D ≤ N * f.2))
theorem Mn.step {C : Int → Int → Prop} {f : F2} (H : Mn C f) {N D : Int} (hN : 0 ≤ N) (hD : 0 < D) {g : F2} (h1 : f.2 = 0 ∨ N * f.2 < f.1 * D → g = (N, D)) (h2 : ¬ (f.2 = 0 ∨ N * f.2 < f.1 * D) → g = f) : Mn (fun n d => C n d ∨ n = N ∧ d = D) g := by
  refine ⟨fun n d hc => ?_, ?_⟩
  · rcases hc with hc | ⟨rfl, rfl⟩
    · exact H.1 n d hc
    · exact ⟨hN, hD⟩
  · by_cases c : f.2 = 0 ∨ N * f.2 < f.1 * D
    · rw [h1 c]
      refine Or.inr ⟨hD, Or.inr ⟨rfl, rfl⟩, fun n d hc => ?_⟩
      dsimp only
      rcases hc with hc | ⟨rfl, rfl⟩
      · rcases H.2 with ⟨z, no⟩ | ⟨p, q, r⟩
        · exact absurd hc (no n d)
        · have w := r n d hc
          have d0 := (H.1 n d hc).2
          have lt : N * f.2 < f.1 * D := by
            rcases c with c | c
            · omega
            · exact c
          have m1 := Int.mul_lt_mul_of_pos_right lt d0
          have m2 := Int.mul_le_mul_of_nonneg_right w (Int.le_of_lt hD)
          refine Int.le_of_lt (lt_cancel p ?_)
          have g1 : f.2 * (N * d) = N * f.2 * d := by grind
          have g2 : f.1 * D * d = f.1 * d * D := by grind
          have g3 : f.2 * (n * D) = n * f.2 * D := by grind
          omega
      · exact Int.le_refl _
    · rw [h2 c]
      rcases H.2 with ⟨z, no⟩ | ⟨p, q, r⟩
      · exact absurd (Or.inl z) c
      · refine Or.inr ⟨p, Or.inl q, fun n d hc => ?_⟩
        rcases hc with hc | ⟨rfl, rfl⟩
        · exact r n d hc
        · by_cases g : f.1 * d ≤ n * f.2
          · exact g
          · exact absurd (Or.inr (by omega)) c
theorem Mn.congr {C C' : Int → Int → Prop} {f : F2} (H : Mn C f) (h : ∀ N D, C N D ↔ C' N D) : Mn C' f := by
  have : C = C' := funext fun N => funext fun D => propext (h N D)
  rw [← this]; exact H
/-- two least values, where each candidate of either is reached by one of the other -/
theorem Mn.same {C C' : Int → Int → Prop} {f g : F2} (H : Mn C f) (H' : Mn C' g) (h1 : ∀ N D, C N D → ∃ N' D', C' N' D' ∧ N' * D ≤ N * D') (h2 : ∀ N' D', C' N' D' → ∃ N D, C N D ∧ N * D' ≤ N' * D) (ex : ∃ N D, C N D) : 0 < f.2 ∧ 0 < g.2 ∧ f.1 * g.2 = g.1 * f.2 := by
  rcases H.2 with ⟨z, no⟩ | ⟨p, q, r⟩
  · obtain ⟨N, D, c⟩ := ex
    exact absurd c (no N D)
  · rcases H'.2 with ⟨z, no⟩ | ⟨p', q', r'⟩
    · obtain ⟨N, D, c, -⟩ := h1 _ _ q
      exact absurd c (no N D)
    · have le : ∀ {a b c d n e : Int}, 0 < b → 0 < d → 0 < e → a * e ≤ n * b → n * d ≤ c * e → a * d ≤ c * b := fun {a b c d n e} hb hd he x y => by
        have m1 := Int.mul_le_mul_of_nonneg_right x (Int.le_of_lt hd)
        have m2 := Int.mul_le_mul_of_nonneg_right y (Int.le_of_lt hb)
        refine le_cancel he ?_
        have g1 : e * (a * d) = a * e * d := by grind
        have g2 : n * b * d = n * d * b := by grind
        have g3 : e * (c * b) = c * e * b := by grind
        omega
      obtain ⟨N', D', c1, l1⟩ := h1 _ _ q
      obtain ⟨N, D, c2, l2⟩ := h2 _ _ q'
      have a1 := le p' p (H'.1 _ _ c1).2 (r' _ _ c1) l1
      have a2 := le p p' (H.1 _ _ c2).2 (r _ _ c2) l2
      exact ⟨p, p', by omega⟩
