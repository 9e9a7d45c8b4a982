/-! the next corner of a hull -/
theorem e2_id (e u w : Z2) : dt e e * dt u w = dt e u * dt e w + cr e u * cr e w := by unfold dt cr; grind
