/-! the class's sum is the merge -/
def zL (V : List PT) (k : Nat) : Z2 := zR V (low V + k)
def spt (A B : List PT) (s : Nat × Nat) : PT := ((vAt A s.1).1 + (vAt B s.2).1, (vAt A s.1).2 + (vAt B s.2).2)
section SU
variable {A B : List PT}
theorem vAt_zL {V : List PT} (hne : V ≠ []) {k : Nat} (hk : k ≤ V.length) : zP (vAt V k) = zL V k := by
  rw [vAt_vR hne hk]; rfl
end SU
