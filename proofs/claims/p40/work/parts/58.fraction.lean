/-! fractions -/
theorem cvJ {S : List AV → AH → (Option AV → AH → Prop) → Prop} {a ci : Nat} {vs As : List AV} {h X : AH} {v : Int64} {K : Int64 → AH → Prop} (ha : h[a]? = some (.inr (ci, vs))) (sp : S (aP (some a) :: As) h (kJ fun r h' => r = v ∧ h' = X)) (k : K v X) : CV S (some a) ci As h (kJ K) := ⟨a, vs, _, rfl, ha, sp, fun _ _ ⟨x, e, q⟩ => ⟨x, e, by obtain ⟨rfl, rfl⟩ := q; exact k⟩⟩
theorem lg_eq0 {x y : Int64} : lg_cmp x y = 0 ↔ x = y := by
  have h1 := lg_ge (x := x) (y := y)
  have h2 := lg_le (x := x) (y := y)
  rw [Int64.lt_iff_toInt_lt] at h1 h2
  rw [← Int64.toInt_inj, ← Int32.toInt_inj]
  rw [Int32.le_iff_toInt_le] at h1 h2
  have z : (0 : Int32).toInt = 0 := by decide
  rw [z] at h1 h2 ⊢
  constructor
  · intro h
    have a1 := h1.mp (by omega)
    have a2 := h2.mp (by omega)
    omega
  · intro h
    have a1 := h1.mpr (by omega)
    have a2 := h2.mpr (by omega)
    omega
abbrev FQ : Type := Int64 × Int64
def FrAt (h : AH) (a : Nat) (f : FQ) : Prop := h[a]? = some (.inr (0, [aJ f.1, aJ f.2]))
theorem FrAt.fr {h h' : AH} {a lo hi : Nat} {f : FQ} (H : FrAt h a f) (r : Fr lo hi h h') (d : a < lo ∨ hi ≤ a) : FrAt h' a f := (r.2 _ d).trans H
def lowF (f g : FQ) : FQ := if g.1 * f.2 < f.1 * g.2 then g else f
def gcdG : Nat → Int64 → Int64 → Int64
  | 0, a, _ => a
  | t + 1, a, b => if b = 0 then a else gcdG t b (a - a / b * b)
def cdF (f : FQ) : Int64 := gcdG 1000000 f.1 f.2
def partF (f : FQ) (p : Int32) : Int32 := if cdF f = 0 then 0 else ((if p = 0 then f.1 else f.2) / cdF f).toInt32
section FR
variable {E : EV} {h : AH} {a : Nat} {f : FQ}
theorem s0_set (H : FrAt h a f) (n d : Int64) : sX0_set E [aP (some a), aJ n, aJ d] h (kV fun h' => FrAt h' a (n, d) ∧ Fr a (a + 1) h h') := by
  refine eX0_set ?_
  unfold PX0_set_0
  exact (wr_iff H).mpr ⟨Nat.le_of_ble_eq_true rfl, (wr_iff (gs H)).mpr ⟨Nat.le_of_ble_eq_true rfl, rfl, gs (gs H), (Fr.set (Nat.le_refl a) (by omega)).trans (Fr.set (Nat.le_refl a) (by omega))⟩⟩
theorem s0_setInfinite (H : FrAt h a f) : sX0_setInfinite E [aP (some a)] h (kV fun h' => FrAt h' a (1, 0) ∧ Fr a (a + 1) h h') := by
  refine eX0_setInfinite ?_
  unfold PX0_setInfinite_0
  exact cvVq H (s0_set H 1 0) fun h' q => ⟨rfl, q⟩
theorem s0_lowerTo (H : FrAt h a f) (n d : Int64) : sX0_lowerTo E [aP (some a), aJ n, aJ d] h (kI fun r h' => r = (if n * f.2 < f.1 * d then 1 else 0) ∧ FrAt h' a (lowF f (n, d)) ∧ Fr a (a + 1) h h') := by
  refine eX0_lowerTo ?_
  unfold PX0_lowerTo_0
  refine (rdJ_iff H).mpr ⟨_, rfl, (rdJ_iff H).mpr ⟨_, rfl, fun c => ?_, fun c => ?_⟩⟩
  · have c := lg_ge.mp c
    unfold PX0_lowerTo_21
    refine ⟨fun _ => ⟨Or.inl rfl, _, rfl, by rw [if_neg c], ?_, Fr.refl⟩, fun q => absurd rfl q⟩
    unfold lowF; rw [if_neg c]; exact H
  · have c : n * f.2 < f.1 * d := Decidable.of_not_not (mt lg_ge.mpr c)
    unfold PX0_lowerTo_21
    refine ⟨fun q => absurd q (by decide), fun _ => cvVq H (s0_set H n d) fun h' q => ⟨Or.inr rfl, _, rfl, by rw [if_pos c], ?_, q.2⟩⟩
    unfold lowF; rw [if_pos c]; exact q.1
theorem s0_cd (H : FrAt h a f) : sX0_commonDivisor E [aP (some a)] h (kJ fun r h' => r = cdF f ∧ h' = h) := by
  refine eX0_commonDivisor (J13 := fun h' l1 l3 l5 => ∃ z j, j + z = 1000000 ∧ h' = h ∧ l5 = Int32.ofNat j ∧ gcdG z l1 l3 = cdF f) (fun X C D h' l1 l3 l5 ⟨z, hz⟩ => ?_) ?_
  · refine lpX0_commonDivisor_13 C D (fun z h' l1 l3 l5 => ∃ j, j + z = 1000000 ∧ h' = h ∧ l5 = Int32.ofNat j ∧ gcdG z l1 l3 = cdF f) (fun z h' l1 l3 l5 hI => ?_) z h' l1 l3 l5 hz
    obtain ⟨j, hj, rfl, rfl, hg⟩ := hI
    unfold PX0_commonDivisor_13
    refine ⟨fun c => ?_, fun c => ⟨fun c2 => ?_, fun c2 => ⟨fun q => c2 (lg_eq0.mpr q), fun v1 e1 => ?_⟩⟩⟩
    · have : 1000000 ≤ j := (i32_le (i := 1000000) (j := j) (by omega) (by omega)).mp c
      have : z = 0 := by omega
      subst this
      exact ⟨_, rfl, hg, rfl⟩
    · have c2 := lg_eq0.mp c2
      cases z with
      | zero => exact ⟨_, rfl, hg, rfl⟩
      | succ z => unfold gcdG at hg; rw [if_pos c2] at hg; exact ⟨_, rfl, hg, rfl⟩
    · have : ¬ 1000000 ≤ j := fun q => c ((i32_le (i := 1000000) (j := j) (by omega) (by omega)).mpr q)
      have c2 : ¬ l3 = 0 := fun q => c2 (lg_eq0.mpr q)
      obtain ⟨t, rfl⟩ : ∃ t, z = t + 1 := ⟨z - 1, by omega⟩
      unfold gcdG at hg
      rw [if_neg c2] at hg
      exact ⟨t, by omega, j + 1, by omega, rfl, i32_s j, by rw [e1]; exact hg⟩
  · unfold PX0_commonDivisor_0
    refine (rdJ_iff H).mpr ⟨_, rfl, (rdJ_iff H).mpr ⟨_, rfl, 1000000, 0, by omega, rfl, rfl, ?_⟩⟩
    unfold cdF; rfl
theorem s0_part (H : FrAt h a f) (p : Int32) : sX0_part E [aP (some a), aI p] h (kI fun r h' => r = partF f p ∧ h' = h) := by
  refine eX0_part ?_
  unfold PX0_part_0
  refine cvJ H (s0_cd H) ⟨fun c => (rdJ_iff H).mpr ⟨_, rfl, ?_⟩, fun c => (rdJ_iff H).mpr ⟨_, rfl, ?_⟩⟩ <;> unfold PX0_part_20 <;> refine ⟨fun c2 => ⟨fun q => c2 (lg_eq0.mpr q), _, rfl, ?_, rfl⟩, fun c2 => ⟨_, rfl, ?_, rfl⟩⟩
  · unfold partF; rw [if_neg (fun q => c2 (lg_eq0.mpr q)), if_neg c]
  · unfold partF; rw [if_pos (lg_eq0.mp c2)]
  · unfold partF; rw [if_neg (fun q => c2 (lg_eq0.mpr q)), if_pos c]
  · unfold partF; rw [if_pos (lg_eq0.mp c2)]
end FR
