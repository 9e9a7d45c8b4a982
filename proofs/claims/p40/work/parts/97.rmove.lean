/-! the reference's clearance and moves -/
abbrev rit (σ : RV) (i : Nat) : RI := σ.2.1.getD i dI
def rHit (σ : RV) (c : Int32) (a b : Nat) : Bool := anyP (rit σ a).1 (rit σ b).1 ((rit σ b).2.1 - (rit σ a).2.1) ((rit σ b).2.2 - (rit σ a).2.2) c 0
def rClrB (σ : RV) (c : Int32) : Bool := (List.range σ.2.1.length).all fun a => (List.range a).all fun b => !rHit σ c a b
noncomputable def rClr (σ : RV) (ps : List RV) (c : Int32) : Int32 × RV × List RV := ifC (inP c 0 5) (if rClrB σ c = true then (σ.2.2.2.2, (σ.1, σ.2.1, σ.2.2.1, σ.2.2.2.1, c), pushR ps σ) else (-1000002, σ, ps)) (-1000001, σ, ps)
def rSet (σ : RV) (i : Nat) (v : PT) : RV := (σ.1, σ.2.1.set i ((rit σ i).1, v.1, v.2), σ.2.2)
def psn (σ : RV) (i : Nat) (d : Int32) (t : Nat) : PT := ((rit σ i).2.1 + Int32.ofNat t * dxR d, (rit σ i).2.2 + Int32.ofNat t * dyR d)
def rFitT (σ : RV) (i : Nat) (d : Int32) (t : Nat) : Bool := rFit σ (rit σ i).1 (psn σ i d t).1 (psn σ i d t).2 (Int32.ofNat i)
def SlE (σ : RV) (i : Nat) (d : Int32) (n : Nat) : Prop := n < 100000 ∧ (∀ t, t < n → rFitT σ i d (t + 1) = true) ∧ rFitT σ i d (n + 1) = false
def rCan (σ : RV) : Bool := (List.range σ.2.1.length).any fun i => rFit σ (rit σ i).1 (rit σ i).2.1 ((rit σ i).2.2 - 1) (Int32.ofNat i) || rFit σ (rit σ i).1 ((rit σ i).2.1 - 1) (rit σ i).2.2 (Int32.ofNat i)
noncomputable def rSlideI (σ : RV) (ps : List RV) (i d : Int32) (n : Nat) : Int32 × RV × List RV := ifC (RItm σ i ∧ inP d 0 7) (if rFitT σ (nx i) d 1 = true then (Int32.ofNat n, rSet σ (nx i) (psn σ (nx i) d n), pushR ps σ) else (-1000009, σ, ps)) (-1000001, σ, ps)
section RM
variable {E : EV} {h : AH} {z : Sc} {k : MK} {cs : List Int32} {σ : RV} {ps : List RV} {b : Nat} {S : SH}
end RM
