/-! points of a shape, of a sum; areas; points in a piece -/
def arR (P : List PT) : Int32 := (List.range P.length).foldl (fun s v => s + ((vR P v).1 * (vR P (v + 1)).2 - (vR P (v + 1)).1 * (vR P v).2)) 0
theorem vR_lt {P : List PT} {v : Nat} (h : v < P.length) : vR P v = P.getD v (0, 0) := by unfold vR; rw [Nat.mod_eq_of_lt h]
section RS
variable {E : EV} {h : AH} {z : Sc} {k : MK} {a b : Nat} {S SA SB : SH} {i j : Nat}
end RS
