/-! normals; whether a place is inside -/
def nrmN (A B : List PT) (q : Nat) : PT := if q < 4 then (dxR (2 * Int32.ofNat q), dyR (2 * Int32.ofNat q)) else if q < 4 + A.length then ((vR A (q - 3)).2 - (vR A (q - 4)).2, (vR A (q - 4)).1 - (vR A (q - 3)).1) else ((vR B (q - 4 - A.length)).2 - (vR B (q - 4 - A.length + 1)).2, (vR B (q - 4 - A.length + 1)).1 - (vR B (q - 4 - A.length)).1)
def rchP (A B : List PT) (n : PT) (r : Int32) : Int32 := hiP A n.1 n.2 + hiP B (-n.1) (-n.2) + r * (szI n.1 + szI n.2)
def inQ (A B : List PT) (x y r e : Int32) (q : Nat) : Bool := decide ((nrmN A B q).1 * x + (nrmN A B q).2 * y < rchP A B (nrmN A B q) r + e)
def insP (A B : List PT) (x y r e : Int32) : Bool := (List.range (4 + A.length + B.length)).all (inQ A B x y r e)
def anyQ (SA SB : SH) (x y r e : Int32) (ij : Nat × Nat) : Bool := insP (SA.getD ij.1 []) (SB.getD ij.2 []) x y r e
def anyP (SA SB : SH) (x y r e : Int32) : Bool := (pre SB.length SA.length 0).any (anyQ SA SB x y r e)
def liePR (SA SB : SH) (x y : Int32) : Int32 := if anyP SA SB x y 0 0 = true then 2 else if anyP SA SB x y 0 1 = true then 1 else 0
section NR
variable {E : EV} {h : AH} {z : Sc} {k : MK} {a b : Nat} {SA SB : SH} {i j : Nat}
end NR
