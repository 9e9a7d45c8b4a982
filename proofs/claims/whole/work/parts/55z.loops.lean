/-! loops that come back to their head only through another one: induction on a measure -/
theorem lsX3_isStopped_13 {E : EV} {X : AX} (I : Nat → AH → Option Nat → Option Nat → Option Nat → Int32 → Int32 → Int32 → Int32 → Int32 → Int32 → Prop) (step : ∀ (z : Nat), (∀ (z2 : Nat), z2 < z → ∀ (h : AH) (l0 : Option Nat) (l1 : Option Nat) (l2 : Option Nat) (l3 : Int32) (l4 : Int32) (l5 : Int32) (l6 : Int32) (l7 : Int32) (l8 : Int32), I z2 h l0 l1 l2 l3 l4 l5 l6 l7 l8 → Go E X 10 0 0 13 [(0, aP l0), (1, aP l1), (2, aP l2), (3, aI l3), (4, aI l4), (5, aI l5), (6, aI l6), (7, aI l7), (8, aI l8)] [] h) → ∀ (h : AH) (l0 : Option Nat) (l1 : Option Nat) (l2 : Option Nat) (l3 : Int32) (l4 : Int32) (l5 : Int32) (l6 : Int32) (l7 : Int32) (l8 : Int32), I z h l0 l1 l2 l3 l4 l5 l6 l7 l8 → Go E X 10 0 0 13 [(0, aP l0), (1, aP l1), (2, aP l2), (3, aI l3), (4, aI l4), (5, aI l5), (6, aI l6), (7, aI l7), (8, aI l8)] [] h) : ∀ (z : Nat) (h : AH) (l0 : Option Nat) (l1 : Option Nat) (l2 : Option Nat) (l3 : Int32) (l4 : Int32) (l5 : Int32) (l6 : Int32) (l7 : Int32) (l8 : Int32), I z h l0 l1 l2 l3 l4 l5 l6 l7 l8 → Go E X 10 0 0 13 [(0, aP l0), (1, aP l1), (2, aP l2), (3, aI l3), (4, aI l4), (5, aI l5), (6, aI l6), (7, aI l7), (8, aI l8)] [] h := by
  intro z
  induction z using Nat.strongRecOn with
  | _ z ih => exact step z ih
theorem lsX3_measureGap_10 {E : EV} {X : AX} (I : Nat → AH → Option Nat → Option Nat → Option Nat → Int32 → Int32 → Int32 → Prop) (step : ∀ (z : Nat), (∀ (z2 : Nat), z2 < z → ∀ (h : AH) (l0 : Option Nat) (l1 : Option Nat) (l2 : Option Nat) (l3 : Int32) (l4 : Int32) (l5 : Int32), I z2 h l0 l1 l2 l3 l4 l5 → Go E X 7 0 0 10 [(0, aP l0), (1, aP l1), (2, aP l2), (3, aI l3), (4, aI l4), (5, aI l5)] [] h) → ∀ (h : AH) (l0 : Option Nat) (l1 : Option Nat) (l2 : Option Nat) (l3 : Int32) (l4 : Int32) (l5 : Int32), I z h l0 l1 l2 l3 l4 l5 → Go E X 7 0 0 10 [(0, aP l0), (1, aP l1), (2, aP l2), (3, aI l3), (4, aI l4), (5, aI l5)] [] h) : ∀ (z : Nat) (h : AH) (l0 : Option Nat) (l1 : Option Nat) (l2 : Option Nat) (l3 : Int32) (l4 : Int32) (l5 : Int32), I z h l0 l1 l2 l3 l4 l5 → Go E X 7 0 0 10 [(0, aP l0), (1, aP l1), (2, aP l2), (3, aI l3), (4, aI l4), (5, aI l5)] [] h := by
  intro z
  induction z using Nat.strongRecOn with
  | _ z ih => exact step z ih
theorem lsX3_relation_6 {E : EV} {X : AX} (I : Nat → AH → Option Nat → Option Nat → Option Nat → Int32 → Int32 → Int32 → Int32 → Prop) (step : ∀ (z : Nat), (∀ (z2 : Nat), z2 < z → ∀ (h : AH) (l0 : Option Nat) (l1 : Option Nat) (l2 : Option Nat) (l3 : Int32) (l4 : Int32) (l5 : Int32) (l6 : Int32), I z2 h l0 l1 l2 l3 l4 l5 l6 → Go E X 8 0 0 6 [(0, aP l0), (1, aP l1), (2, aP l2), (3, aI l3), (4, aI l4), (5, aI l5), (6, aI l6)] [] h) → ∀ (h : AH) (l0 : Option Nat) (l1 : Option Nat) (l2 : Option Nat) (l3 : Int32) (l4 : Int32) (l5 : Int32) (l6 : Int32), I z h l0 l1 l2 l3 l4 l5 l6 → Go E X 8 0 0 6 [(0, aP l0), (1, aP l1), (2, aP l2), (3, aI l3), (4, aI l4), (5, aI l5), (6, aI l6)] [] h) : ∀ (z : Nat) (h : AH) (l0 : Option Nat) (l1 : Option Nat) (l2 : Option Nat) (l3 : Int32) (l4 : Int32) (l5 : Int32) (l6 : Int32), I z h l0 l1 l2 l3 l4 l5 l6 → Go E X 8 0 0 6 [(0, aP l0), (1, aP l1), (2, aP l2), (3, aI l3), (4, aI l4), (5, aI l5), (6, aI l6)] [] h := by
  intro z
  induction z using Nat.strongRecOn with
  | _ z ih => exact step z ih
theorem lsX4_countFree_7 {E : EV} {X : AX} (I : Nat → AH → Option Nat → Int32 → Int32 → Prop) (step : ∀ (z : Nat), (∀ (z2 : Nat), z2 < z → ∀ (h : AH) (l0 : Option Nat) (l1 : Int32) (l2 : Int32), I z2 h l0 l1 l2 → Go E X 4 0 0 7 [(0, aP l0), (1, aI l1), (2, aI l2)] [] h) → ∀ (h : AH) (l0 : Option Nat) (l1 : Int32) (l2 : Int32), I z h l0 l1 l2 → Go E X 4 0 0 7 [(0, aP l0), (1, aI l1), (2, aI l2)] [] h) : ∀ (z : Nat) (h : AH) (l0 : Option Nat) (l1 : Int32) (l2 : Int32), I z h l0 l1 l2 → Go E X 4 0 0 7 [(0, aP l0), (1, aI l1), (2, aI l2)] [] h := by
  intro z
  induction z using Nat.strongRecOn with
  | _ z ih => exact step z ih
theorem lsX4_findBottomLeft_5 {E : EV} {X : AX} (I : Nat → AH → Option Nat → Int32 → Prop) (step : ∀ (z : Nat), (∀ (z2 : Nat), z2 < z → ∀ (h : AH) (l0 : Option Nat) (l1 : Int32), I z2 h l0 l1 → Go E X 3 0 0 5 [(0, aP l0), (1, aI l1)] [] h) → ∀ (h : AH) (l0 : Option Nat) (l1 : Int32), I z h l0 l1 → Go E X 3 0 0 5 [(0, aP l0), (1, aI l1)] [] h) : ∀ (z : Nat) (h : AH) (l0 : Option Nat) (l1 : Int32), I z h l0 l1 → Go E X 3 0 0 5 [(0, aP l0), (1, aI l1)] [] h := by
  intro z
  induction z using Nat.strongRecOn with
  | _ z ih => exact step z ih
theorem lsX4_prepare_104 {E : EV} {X : AX} (I : Nat → AH → Option Nat → Option Nat → Option Nat → Int32 → Int32 → Option Nat → Int32 → Prop) (step : ∀ (z : Nat), (∀ (z2 : Nat), z2 < z → ∀ (h : AH) (l0 : Option Nat) (l1 : Option Nat) (l2 : Option Nat) (l3 : Int32) (l4 : Int32) (l5 : Option Nat) (l6 : Int32), I z2 h l0 l1 l2 l3 l4 l5 l6 → Go E X 9 0 0 104 [(0, aP l0), (1, aP l1), (2, aP l2), (3, aI l3), (4, aI l4), (5, aP l5), (6, aI l6)] [] h) → ∀ (h : AH) (l0 : Option Nat) (l1 : Option Nat) (l2 : Option Nat) (l3 : Int32) (l4 : Int32) (l5 : Option Nat) (l6 : Int32), I z h l0 l1 l2 l3 l4 l5 l6 → Go E X 9 0 0 104 [(0, aP l0), (1, aP l1), (2, aP l2), (3, aI l3), (4, aI l4), (5, aP l5), (6, aI l6)] [] h) : ∀ (z : Nat) (h : AH) (l0 : Option Nat) (l1 : Option Nat) (l2 : Option Nat) (l3 : Int32) (l4 : Int32) (l5 : Option Nat) (l6 : Int32), I z h l0 l1 l2 l3 l4 l5 l6 → Go E X 9 0 0 104 [(0, aP l0), (1, aP l1), (2, aP l2), (3, aI l3), (4, aI l4), (5, aP l5), (6, aI l6)] [] h := by
  intro z
  induction z using Nat.strongRecOn with
  | _ z ih => exact step z ih
theorem lsX5_isConvex_2 {E : EV} {X : AX} (I : Nat → AH → Option Nat → Int32 → Prop) (step : ∀ (z : Nat), (∀ (z2 : Nat), z2 < z → ∀ (h : AH) (l0 : Option Nat) (l1 : Int32), I z2 h l0 l1 → Go E X 4 0 0 2 [(0, aP l0), (1, aI l1)] [] h) → ∀ (h : AH) (l0 : Option Nat) (l1 : Int32), I z h l0 l1 → Go E X 4 0 0 2 [(0, aP l0), (1, aI l1)] [] h) : ∀ (z : Nat) (h : AH) (l0 : Option Nat) (l1 : Int32), I z h l0 l1 → Go E X 4 0 0 2 [(0, aP l0), (1, aI l1)] [] h := by
  intro z
  induction z using Nat.strongRecOn with
  | _ z ih => exact step z ih
theorem lsX6_setTurned_6 {E : EV} {X : AX} (I : Nat → AH → Option Nat → Option Nat → Int32 → Int32 → Prop) (step : ∀ (z : Nat), (∀ (z2 : Nat), z2 < z → ∀ (h : AH) (l0 : Option Nat) (l1 : Option Nat) (l2 : Int32) (l3 : Int32), I z2 h l0 l1 l2 l3 → Go E X 5 0 0 6 [(0, aP l0), (1, aP l1), (2, aI l2), (3, aI l3)] [] h) → ∀ (h : AH) (l0 : Option Nat) (l1 : Option Nat) (l2 : Int32) (l3 : Int32), I z h l0 l1 l2 l3 → Go E X 5 0 0 6 [(0, aP l0), (1, aP l1), (2, aI l2), (3, aI l3)] [] h) : ∀ (z : Nat) (h : AH) (l0 : Option Nat) (l1 : Option Nat) (l2 : Int32) (l3 : Int32), I z h l0 l1 l2 l3 → Go E X 5 0 0 6 [(0, aP l0), (1, aP l1), (2, aI l2), (3, aI l3)] [] h := by
  intro z
  induction z using Nat.strongRecOn with
  | _ z ih => exact step z ih
theorem lsX10_closestPair_12 {E : EV} {X : AX} (I : Nat → AH → Option Nat → Int32 → Int32 → Prop) (step : ∀ (z : Nat), (∀ (z2 : Nat), z2 < z → ∀ (h : AH) (l0 : Option Nat) (l1 : Int32) (l2 : Int32), I z2 h l0 l1 l2 → Go E X 4 0 0 12 [(0, aP l0), (1, aI l1), (2, aI l2)] [] h) → ∀ (h : AH) (l0 : Option Nat) (l1 : Int32) (l2 : Int32), I z h l0 l1 l2 → Go E X 4 0 0 12 [(0, aP l0), (1, aI l1), (2, aI l2)] [] h) : ∀ (z : Nat) (h : AH) (l0 : Option Nat) (l1 : Int32) (l2 : Int32), I z h l0 l1 l2 → Go E X 4 0 0 12 [(0, aP l0), (1, aI l1), (2, aI l2)] [] h := by
  intro z
  induction z using Nat.strongRecOn with
  | _ z ih => exact step z ih
theorem lsX10_compact_17 {E : EV} {X : AX} (I : Nat → AH → Option Nat → Int32 → Int32 → Int32 → Prop) (step : ∀ (z : Nat), (∀ (z2 : Nat), z2 < z → ∀ (h : AH) (l0 : Option Nat) (l1 : Int32) (l2 : Int32) (l3 : Int32), I z2 h l0 l1 l2 l3 → Go E X 5 0 0 17 [(0, aP l0), (1, aI l1), (2, aI l2), (3, aI l3)] [] h) → ∀ (h : AH) (l0 : Option Nat) (l1 : Int32) (l2 : Int32) (l3 : Int32), I z h l0 l1 l2 l3 → Go E X 5 0 0 17 [(0, aP l0), (1, aI l1), (2, aI l2), (3, aI l3)] [] h) : ∀ (z : Nat) (h : AH) (l0 : Option Nat) (l1 : Int32) (l2 : Int32) (l3 : Int32), I z h l0 l1 l2 l3 → Go E X 5 0 0 17 [(0, aP l0), (1, aI l1), (2, aI l2), (3, aI l3)] [] h := by
  intro z
  induction z using Nat.strongRecOn with
  | _ z ih => exact step z ih
theorem lsX10_packedDoubleArea_4 {E : EV} {X : AX} (I : Nat → AH → Option Nat → Int32 → Int32 → Prop) (step : ∀ (z : Nat), (∀ (z2 : Nat), z2 < z → ∀ (h : AH) (l0 : Option Nat) (l1 : Int32) (l2 : Int32), I z2 h l0 l1 l2 → Go E X 5 0 0 4 [(0, aP l0), (1, aI l1), (2, aI l2)] [] h) → ∀ (h : AH) (l0 : Option Nat) (l1 : Int32) (l2 : Int32), I z h l0 l1 l2 → Go E X 5 0 0 4 [(0, aP l0), (1, aI l1), (2, aI l2)] [] h) : ∀ (z : Nat) (h : AH) (l0 : Option Nat) (l1 : Int32) (l2 : Int32), I z h l0 l1 l2 → Go E X 5 0 0 4 [(0, aP l0), (1, aI l1), (2, aI l2)] [] h := by
  intro z
  induction z using Nat.strongRecOn with
  | _ z ih => exact step z ih
theorem lsX10_touchingPairs_4 {E : EV} {X : AX} (I : Nat → AH → Option Nat → Int32 → Int32 → Prop) (step : ∀ (z : Nat), (∀ (z2 : Nat), z2 < z → ∀ (h : AH) (l0 : Option Nat) (l1 : Int32) (l2 : Int32), I z2 h l0 l1 l2 → Go E X 6 0 0 4 [(0, aP l0), (1, aI l1), (2, aI l2)] [] h) → ∀ (h : AH) (l0 : Option Nat) (l1 : Int32) (l2 : Int32), I z h l0 l1 l2 → Go E X 6 0 0 4 [(0, aP l0), (1, aI l1), (2, aI l2)] [] h) : ∀ (z : Nat) (h : AH) (l0 : Option Nat) (l1 : Int32) (l2 : Int32), I z h l0 l1 l2 → Go E X 6 0 0 4 [(0, aP l0), (1, aI l1), (2, aI l2)] [] h := by
  intro z
  induction z using Nat.strongRecOn with
  | _ z ih => exact step z ih
theorem lsX11_isAny_6 {E : EV} {X : AX} (I : Nat → AH → Option Nat → Int32 → Int32 → Int32 → Int32 → Int32 → Int32 → Int32 → Int32 → Prop) (step : ∀ (z : Nat), (∀ (z2 : Nat), z2 < z → ∀ (h : AH) (l0 : Option Nat) (l1 : Int32) (l2 : Int32) (l3 : Int32) (l4 : Int32) (l5 : Int32) (l6 : Int32) (l7 : Int32) (l8 : Int32), I z2 h l0 l1 l2 l3 l4 l5 l6 l7 l8 → Go E X 10 0 0 6 [(0, aP l0), (1, aI l1), (2, aI l2), (3, aI l3), (4, aI l4), (5, aI l5), (6, aI l6), (7, aI l7), (8, aI l8)] [] h) → ∀ (h : AH) (l0 : Option Nat) (l1 : Int32) (l2 : Int32) (l3 : Int32) (l4 : Int32) (l5 : Int32) (l6 : Int32) (l7 : Int32) (l8 : Int32), I z h l0 l1 l2 l3 l4 l5 l6 l7 l8 → Go E X 10 0 0 6 [(0, aP l0), (1, aI l1), (2, aI l2), (3, aI l3), (4, aI l4), (5, aI l5), (6, aI l6), (7, aI l7), (8, aI l8)] [] h) : ∀ (z : Nat) (h : AH) (l0 : Option Nat) (l1 : Int32) (l2 : Int32) (l3 : Int32) (l4 : Int32) (l5 : Int32) (l6 : Int32) (l7 : Int32) (l8 : Int32), I z h l0 l1 l2 l3 l4 l5 l6 l7 l8 → Go E X 10 0 0 6 [(0, aP l0), (1, aI l1), (2, aI l2), (3, aI l3), (4, aI l4), (5, aI l5), (6, aI l6), (7, aI l7), (8, aI l8)] [] h := by
  intro z
  induction z using Nat.strongRecOn with
  | _ z ih => exact step z ih
theorem lsX11_nearsSides_3 {E : EV} {X : AX} (I : Nat → AH → Option Nat → Int32 → Int32 → Int32 → Int32 → Int32 → Int32 → Int32 → Prop) (step : ∀ (z : Nat), (∀ (z2 : Nat), z2 < z → ∀ (h : AH) (l0 : Option Nat) (l1 : Int32) (l2 : Int32) (l3 : Int32) (l4 : Int32) (l5 : Int32) (l6 : Int32) (l7 : Int32), I z2 h l0 l1 l2 l3 l4 l5 l6 l7 → Go E X 23 0 0 3 [(0, aP l0), (1, aI l1), (2, aI l2), (3, aI l3), (4, aI l4), (5, aI l5), (6, aI l6), (7, aI l7)] [] h) → ∀ (h : AH) (l0 : Option Nat) (l1 : Int32) (l2 : Int32) (l3 : Int32) (l4 : Int32) (l5 : Int32) (l6 : Int32) (l7 : Int32), I z h l0 l1 l2 l3 l4 l5 l6 l7 → Go E X 23 0 0 3 [(0, aP l0), (1, aI l1), (2, aI l2), (3, aI l3), (4, aI l4), (5, aI l5), (6, aI l6), (7, aI l7)] [] h) : ∀ (z : Nat) (h : AH) (l0 : Option Nat) (l1 : Int32) (l2 : Int32) (l3 : Int32) (l4 : Int32) (l5 : Int32) (l6 : Int32) (l7 : Int32), I z h l0 l1 l2 l3 l4 l5 l6 l7 → Go E X 23 0 0 3 [(0, aP l0), (1, aI l1), (2, aI l2), (3, aI l3), (4, aI l4), (5, aI l5), (6, aI l6), (7, aI l7)] [] h := by
  intro z
  induction z using Nat.strongRecOn with
  | _ z ih => exact step z ih
theorem lsX11_laysGap_13 {E : EV} {X : AX} (I : Nat → AH → Option Nat → Int32 → Int32 → Int32 → Int32 → Int32 → Prop) (step : ∀ (z : Nat), (∀ (z2 : Nat), z2 < z → ∀ (h : AH) (l0 : Option Nat) (l1 : Int32) (l2 : Int32) (l3 : Int32) (l4 : Int32) (l5 : Int32), I z2 h l0 l1 l2 l3 l4 l5 → Go E X 7 0 0 13 [(0, aP l0), (1, aI l1), (2, aI l2), (3, aI l3), (4, aI l4), (5, aI l5)] [] h) → ∀ (h : AH) (l0 : Option Nat) (l1 : Int32) (l2 : Int32) (l3 : Int32) (l4 : Int32) (l5 : Int32), I z h l0 l1 l2 l3 l4 l5 → Go E X 7 0 0 13 [(0, aP l0), (1, aI l1), (2, aI l2), (3, aI l3), (4, aI l4), (5, aI l5)] [] h) : ∀ (z : Nat) (h : AH) (l0 : Option Nat) (l1 : Int32) (l2 : Int32) (l3 : Int32) (l4 : Int32) (l5 : Int32), I z h l0 l1 l2 l3 l4 l5 → Go E X 7 0 0 13 [(0, aP l0), (1, aI l1), (2, aI l2), (3, aI l3), (4, aI l4), (5, aI l5)] [] h := by
  intro z
  induction z using Nat.strongRecOn with
  | _ z ih => exact step z ih
theorem lsX11_closestPair_11 {E : EV} {X : AX} (I : Nat → AH → Option Nat → Int32 → Int64 → Int64 → Int32 → Prop) (step : ∀ (z : Nat), (∀ (z2 : Nat), z2 < z → ∀ (h : AH) (l0 : Option Nat) (l1 : Int32) (l2 : Int64) (l4 : Int64) (l6 : Int32), I z2 h l0 l1 l2 l4 l6 → Go E X 9 0 0 11 [(0, aP l0), (1, aI l1), (2, aJ l2), (4, aJ l4), (6, aI l6)] [] h) → ∀ (h : AH) (l0 : Option Nat) (l1 : Int32) (l2 : Int64) (l4 : Int64) (l6 : Int32), I z h l0 l1 l2 l4 l6 → Go E X 9 0 0 11 [(0, aP l0), (1, aI l1), (2, aJ l2), (4, aJ l4), (6, aI l6)] [] h) : ∀ (z : Nat) (h : AH) (l0 : Option Nat) (l1 : Int32) (l2 : Int64) (l4 : Int64) (l6 : Int32), I z h l0 l1 l2 l4 l6 → Go E X 9 0 0 11 [(0, aP l0), (1, aI l1), (2, aJ l2), (4, aJ l4), (6, aI l6)] [] h := by
  intro z
  induction z using Nat.strongRecOn with
  | _ z ih => exact step z ih
theorem lsX11_stops_8 {E : EV} {X : AX} (I : Nat → AH → Option Nat → Int32 → Int32 → Int32 → Int32 → Int32 → Int32 → Prop) (step : ∀ (z : Nat), (∀ (z2 : Nat), z2 < z → ∀ (h : AH) (l0 : Option Nat) (l1 : Int32) (l2 : Int32) (l3 : Int32) (l4 : Int32) (l5 : Int32) (l6 : Int32), I z2 h l0 l1 l2 l3 l4 l5 l6 → Go E X 9 0 0 8 [(0, aP l0), (1, aI l1), (2, aI l2), (3, aI l3), (4, aI l4), (5, aI l5), (6, aI l6)] [] h) → ∀ (h : AH) (l0 : Option Nat) (l1 : Int32) (l2 : Int32) (l3 : Int32) (l4 : Int32) (l5 : Int32) (l6 : Int32), I z h l0 l1 l2 l3 l4 l5 l6 → Go E X 9 0 0 8 [(0, aP l0), (1, aI l1), (2, aI l2), (3, aI l3), (4, aI l4), (5, aI l5), (6, aI l6)] [] h) : ∀ (z : Nat) (h : AH) (l0 : Option Nat) (l1 : Int32) (l2 : Int32) (l3 : Int32) (l4 : Int32) (l5 : Int32) (l6 : Int32), I z h l0 l1 l2 l3 l4 l5 l6 → Go E X 9 0 0 8 [(0, aP l0), (1, aI l1), (2, aI l2), (3, aI l3), (4, aI l4), (5, aI l5), (6, aI l6)] [] h := by
  intro z
  induction z using Nat.strongRecOn with
  | _ z ih => exact step z ih
theorem lsX11_compact_18 {E : EV} {X : AX} (I : Nat → AH → Option Nat → Int32 → Int32 → Prop) (step : ∀ (z : Nat), (∀ (z2 : Nat), z2 < z → ∀ (h : AH) (l0 : Option Nat) (l1 : Int32) (l2 : Int32), I z2 h l0 l1 l2 → Go E X 4 0 0 18 [(0, aP l0), (1, aI l1), (2, aI l2)] [] h) → ∀ (h : AH) (l0 : Option Nat) (l1 : Int32) (l2 : Int32), I z h l0 l1 l2 → Go E X 4 0 0 18 [(0, aP l0), (1, aI l1), (2, aI l2)] [] h) : ∀ (z : Nat) (h : AH) (l0 : Option Nat) (l1 : Int32) (l2 : Int32), I z h l0 l1 l2 → Go E X 4 0 0 18 [(0, aP l0), (1, aI l1), (2, aI l2)] [] h := by
  intro z
  induction z using Nat.strongRecOn with
  | _ z ih => exact step z ih
theorem lsX11_finds_8 {E : EV} {X : AX} (I : Nat → AH → Option Nat → Int32 → Int32 → Prop) (step : ∀ (z : Nat), (∀ (z2 : Nat), z2 < z → ∀ (h : AH) (l0 : Option Nat) (l1 : Int32) (l2 : Int32), I z2 h l0 l1 l2 → Go E X 4 0 0 8 [(0, aP l0), (1, aI l1), (2, aI l2)] [] h) → ∀ (h : AH) (l0 : Option Nat) (l1 : Int32) (l2 : Int32), I z h l0 l1 l2 → Go E X 4 0 0 8 [(0, aP l0), (1, aI l1), (2, aI l2)] [] h) : ∀ (z : Nat) (h : AH) (l0 : Option Nat) (l1 : Int32) (l2 : Int32), I z h l0 l1 l2 → Go E X 4 0 0 8 [(0, aP l0), (1, aI l1), (2, aI l2)] [] h := by
  intro z
  induction z using Nat.strongRecOn with
  | _ z ih => exact step z ih
theorem lsX11_freePlaces_37 {E : EV} {X : AX} (I : Nat → AH → Option Nat → Int32 → Int32 → Int32 → Prop) (step : ∀ (z : Nat), (∀ (z2 : Nat), z2 < z → ∀ (h : AH) (l0 : Option Nat) (l2 : Int32) (l3 : Int32) (l4 : Int32), I z2 h l0 l2 l3 l4 → Go E X 6 0 0 37 [(0, aP l0), (2, aI l2), (3, aI l3), (4, aI l4)] [] h) → ∀ (h : AH) (l0 : Option Nat) (l2 : Int32) (l3 : Int32) (l4 : Int32), I z h l0 l2 l3 l4 → Go E X 6 0 0 37 [(0, aP l0), (2, aI l2), (3, aI l3), (4, aI l4)] [] h) : ∀ (z : Nat) (h : AH) (l0 : Option Nat) (l2 : Int32) (l3 : Int32) (l4 : Int32), I z h l0 l2 l3 l4 → Go E X 6 0 0 37 [(0, aP l0), (2, aI l2), (3, aI l3), (4, aI l4)] [] h := by
  intro z
  induction z using Nat.strongRecOn with
  | _ z ih => exact step z ih
theorem lsX11_laysShapeHull_7 {E : EV} {X : AX} (I : Nat → AH → Option Nat → Int32 → Int32 → Prop) (step : ∀ (z : Nat), (∀ (z2 : Nat), z2 < z → ∀ (h : AH) (l0 : Option Nat) (l1 : Int32) (l2 : Int32), I z2 h l0 l1 l2 → Go E X 4 0 0 7 [(0, aP l0), (1, aI l1), (2, aI l2)] [] h) → ∀ (h : AH) (l0 : Option Nat) (l1 : Int32) (l2 : Int32), I z h l0 l1 l2 → Go E X 4 0 0 7 [(0, aP l0), (1, aI l1), (2, aI l2)] [] h) : ∀ (z : Nat) (h : AH) (l0 : Option Nat) (l1 : Int32) (l2 : Int32), I z h l0 l1 l2 → Go E X 4 0 0 7 [(0, aP l0), (1, aI l1), (2, aI l2)] [] h := by
  intro z
  induction z using Nat.strongRecOn with
  | _ z ih => exact step z ih
theorem lsX11_isPiece_11 {E : EV} {X : AX} (I : Nat → AH → Option Nat → Int32 → Int32 → Int32 → Prop) (step : ∀ (z : Nat), (∀ (z2 : Nat), z2 < z → ∀ (h : AH) (l0 : Option Nat) (l1 : Int32) (l2 : Int32) (l3 : Int32), I z2 h l0 l1 l2 l3 → Go E X 7 0 0 11 [(0, aP l0), (1, aI l1), (2, aI l2), (3, aI l3)] [] h) → ∀ (h : AH) (l0 : Option Nat) (l1 : Int32) (l2 : Int32) (l3 : Int32), I z h l0 l1 l2 l3 → Go E X 7 0 0 11 [(0, aP l0), (1, aI l1), (2, aI l2), (3, aI l3)] [] h) : ∀ (z : Nat) (h : AH) (l0 : Option Nat) (l1 : Int32) (l2 : Int32) (l3 : Int32), I z h l0 l1 l2 l3 → Go E X 7 0 0 11 [(0, aP l0), (1, aI l1), (2, aI l2), (3, aI l3)] [] h := by
  intro z
  induction z using Nat.strongRecOn with
  | _ z ih => exact step z ih
theorem lsX11_itemAt_13 {E : EV} {X : AX} (I : Nat → AH → Option Nat → Int32 → Int32 → Int32 → Prop) (step : ∀ (z : Nat), (∀ (z2 : Nat), z2 < z → ∀ (h : AH) (l0 : Option Nat) (l1 : Int32) (l2 : Int32) (l3 : Int32), I z2 h l0 l1 l2 l3 → Go E X 5 0 0 13 [(0, aP l0), (1, aI l1), (2, aI l2), (3, aI l3)] [] h) → ∀ (h : AH) (l0 : Option Nat) (l1 : Int32) (l2 : Int32) (l3 : Int32), I z h l0 l1 l2 l3 → Go E X 5 0 0 13 [(0, aP l0), (1, aI l1), (2, aI l2), (3, aI l3)] [] h) : ∀ (z : Nat) (h : AH) (l0 : Option Nat) (l1 : Int32) (l2 : Int32) (l3 : Int32), I z h l0 l1 l2 l3 → Go E X 5 0 0 13 [(0, aP l0), (1, aI l1), (2, aI l2), (3, aI l3)] [] h := by
  intro z
  induction z using Nat.strongRecOn with
  | _ z ih => exact step z ih
theorem lsX11_laysSum_8 {E : EV} {X : AX} (I : Nat → AH → Option Nat → Int32 → Int32 → Int32 → Int32 → Int32 → Int32 → Prop) (step : ∀ (z : Nat), (∀ (z2 : Nat), z2 < z → ∀ (h : AH) (l0 : Option Nat) (l1 : Int32) (l2 : Int32) (l3 : Int32) (l4 : Int32) (l5 : Int32) (l6 : Int32), I z2 h l0 l1 l2 l3 l4 l5 l6 → Go E X 8 0 0 8 [(0, aP l0), (1, aI l1), (2, aI l2), (3, aI l3), (4, aI l4), (5, aI l5), (6, aI l6)] [] h) → ∀ (h : AH) (l0 : Option Nat) (l1 : Int32) (l2 : Int32) (l3 : Int32) (l4 : Int32) (l5 : Int32) (l6 : Int32), I z h l0 l1 l2 l3 l4 l5 l6 → Go E X 8 0 0 8 [(0, aP l0), (1, aI l1), (2, aI l2), (3, aI l3), (4, aI l4), (5, aI l5), (6, aI l6)] [] h) : ∀ (z : Nat) (h : AH) (l0 : Option Nat) (l1 : Int32) (l2 : Int32) (l3 : Int32) (l4 : Int32) (l5 : Int32) (l6 : Int32), I z h l0 l1 l2 l3 l4 l5 l6 → Go E X 8 0 0 8 [(0, aP l0), (1, aI l1), (2, aI l2), (3, aI l3), (4, aI l4), (5, aI l5), (6, aI l6)] [] h := by
  intro z
  induction z using Nat.strongRecOn with
  | _ z ih => exact step z ih
theorem lsX11_packedDoubleArea_4 {E : EV} {X : AX} (I : Nat → AH → Option Nat → Int32 → Int32 → Prop) (step : ∀ (z : Nat), (∀ (z2 : Nat), z2 < z → ∀ (h : AH) (l0 : Option Nat) (l1 : Int32) (l2 : Int32), I z2 h l0 l1 l2 → Go E X 4 0 0 4 [(0, aP l0), (1, aI l1), (2, aI l2)] [] h) → ∀ (h : AH) (l0 : Option Nat) (l1 : Int32) (l2 : Int32), I z h l0 l1 l2 → Go E X 4 0 0 4 [(0, aP l0), (1, aI l1), (2, aI l2)] [] h) : ∀ (z : Nat) (h : AH) (l0 : Option Nat) (l1 : Int32) (l2 : Int32), I z h l0 l1 l2 → Go E X 4 0 0 4 [(0, aP l0), (1, aI l1), (2, aI l2)] [] h := by
  intro z
  induction z using Nat.strongRecOn with
  | _ z ih => exact step z ih
theorem lsX11_removalOrder_31 {E : EV} {X : AX} (I : Nat → AH → Option Nat → Int32 → Int32 → Int32 → Int32 → Prop) (step : ∀ (z : Nat), (∀ (z2 : Nat), z2 < z → ∀ (h : AH) (l0 : Option Nat) (l1 : Int32) (l2 : Int32) (l3 : Int32) (l4 : Int32), I z2 h l0 l1 l2 l3 l4 → Go E X 7 0 0 31 [(0, aP l0), (1, aI l1), (2, aI l2), (3, aI l3), (4, aI l4)] [] h) → ∀ (h : AH) (l0 : Option Nat) (l1 : Int32) (l2 : Int32) (l3 : Int32) (l4 : Int32), I z h l0 l1 l2 l3 l4 → Go E X 7 0 0 31 [(0, aP l0), (1, aI l1), (2, aI l2), (3, aI l3), (4, aI l4)] [] h) : ∀ (z : Nat) (h : AH) (l0 : Option Nat) (l1 : Int32) (l2 : Int32) (l3 : Int32) (l4 : Int32), I z h l0 l1 l2 l3 l4 → Go E X 7 0 0 31 [(0, aP l0), (1, aI l1), (2, aI l2), (3, aI l3), (4, aI l4)] [] h := by
  intro z
  induction z using Nat.strongRecOn with
  | _ z ih => exact step z ih
theorem lsX11_setClearance_14 {E : EV} {X : AX} (I : Nat → AH → Option Nat → Int32 → Int32 → Prop) (step : ∀ (z : Nat), (∀ (z2 : Nat), z2 < z → ∀ (h : AH) (l0 : Option Nat) (l1 : Int32) (l2 : Int32), I z2 h l0 l1 l2 → Go E X 4 0 0 14 [(0, aP l0), (1, aI l1), (2, aI l2)] [] h) → ∀ (h : AH) (l0 : Option Nat) (l1 : Int32) (l2 : Int32), I z h l0 l1 l2 → Go E X 4 0 0 14 [(0, aP l0), (1, aI l1), (2, aI l2)] [] h) : ∀ (z : Nat) (h : AH) (l0 : Option Nat) (l1 : Int32) (l2 : Int32), I z h l0 l1 l2 → Go E X 4 0 0 14 [(0, aP l0), (1, aI l1), (2, aI l2)] [] h := by
  intro z
  induction z using Nat.strongRecOn with
  | _ z ih => exact step z ih
theorem lsX11_touchingPairs_4 {E : EV} {X : AX} (I : Nat → AH → Option Nat → Int32 → Int32 → Prop) (step : ∀ (z : Nat), (∀ (z2 : Nat), z2 < z → ∀ (h : AH) (l0 : Option Nat) (l1 : Int32) (l2 : Int32), I z2 h l0 l1 l2 → Go E X 4 0 0 4 [(0, aP l0), (1, aI l1), (2, aI l2)] [] h) → ∀ (h : AH) (l0 : Option Nat) (l1 : Int32) (l2 : Int32), I z h l0 l1 l2 → Go E X 4 0 0 4 [(0, aP l0), (1, aI l1), (2, aI l2)] [] h) : ∀ (z : Nat) (h : AH) (l0 : Option Nat) (l1 : Int32) (l2 : Int32), I z h l0 l1 l2 → Go E X 4 0 0 4 [(0, aP l0), (1, aI l1), (2, aI l2)] [] h := by
  intro z
  induction z using Nat.strongRecOn with
  | _ z ih => exact step z ih
