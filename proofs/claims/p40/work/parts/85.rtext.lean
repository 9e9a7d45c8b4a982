/-! the reference reads the text -/
def TxR (k : MK) (cs : List Int32) : Prop := k.2.2.2.2 = Int32.ofNat cs.length ∧ cs.length ≤ 150 ∧ ∀ j, j < cs.length → k.2.2.1.getD j 0 &&& 255 = cs.getD j 0
def bI (w : Bool) : Int32 := if w = true then 1 else 0
def RdZ (h : AH) (k : MK) (p : Nat) (w : Bool) (la : Int32) : Prop := ∃ z, MoZ h z k ∧ (zT z).1 = Int32.ofNat p ∧ (zT z).2.1 = bI w ∧ (zT z).2.2.2.2.2.2 = la ∧ p ≤ 150
section RX
variable {E : EV} {h : AH} {k : MK} {cs : List Int32} {p : Nat} {w : Bool} {la : Int32}
end RX
