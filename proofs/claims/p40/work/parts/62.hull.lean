/-! the hull of a shape -/
def tAt (T : List PT) (k : Nat) : PT := T.getD k (0, 0)
def lowStep (T : List PT) (b k : Nat) : Nat := if (tAt T (k + 1)).2 < (tAt T b).2 then k + 1 else if (tAt T (k + 1)).2 = (tAt T b).2 ∧ (tAt T (k + 1)).1 < (tAt T b).1 then k + 1 else b
def lowT (T : List PT) : Nat := (List.range (T.length - 1)).foldl (lowStep T) 0
section HU
variable {E : EV} {h : AH} {a p : Nat} {S : List (List PT)} {V : List PT}
end HU
