/-! the reference places -/
def rCon (S : SH) (w hh x y : Int32) : Bool := decide (¬ w < x + hgP S 1 0 ∧ ¬ hh < y + hgP S 0 1 ∧ ¬ x < hgP S (-1) 0 ∧ ¬ y < hgP S 0 (-1))
def rOff (σ : RV) (S : SH) (x y sk : Int32) (i : Nat) : Bool := decide (Int32.ofNat i = sk) || !anyP (σ.2.1.getD i dI).1 S (x - (σ.2.1.getD i dI).2.1) (y - (σ.2.1.getD i dI).2.2) σ.2.2.2.2 0
def rFit (σ : RV) (S : SH) (x y sk : Int32) : Bool := rCon S σ.2.2.1 σ.2.2.2.1 x y && (List.range σ.2.1.length).all (rOff σ S x y sk)
section RP
variable {E : EV} {h : AH} {z : Sc} {k : MK} {cs : List Int32} {σ : RV} {ps : List RV} {b : Nat} {S : SH}
end RP
