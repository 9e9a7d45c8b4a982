/-! loops that come back to their head only through another one: induction on a measure -/
theorem lsX5_isConvex_2 {E : EV} {X : AX} (I : Nat → AH → Option Nat → Int32 → Prop) (step : ∀ (z : Nat), (∀ (z2 : Nat), z2 < z → ∀ (h : AH) (l0 : Option Nat) (l1 : Int32), I z2 h l0 l1 → Go E X 4 0 0 2 [(0, aP l0), (1, aI l1)] [] h) → ∀ (h : AH) (l0 : Option Nat) (l1 : Int32), I z h l0 l1 → Go E X 4 0 0 2 [(0, aP l0), (1, aI l1)] [] h) : ∀ (z : Nat) (h : AH) (l0 : Option Nat) (l1 : Int32), I z h l0 l1 → Go E X 4 0 0 2 [(0, aP l0), (1, aI l1)] [] h := by
  intro z
  induction z using Nat.strongRecOn with
  | _ z ih => exact step z ih
