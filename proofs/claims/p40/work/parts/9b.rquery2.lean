/-! the reference's answers: slide, gaps of items, free places -/
def rcpStep (σ : RV) (s : Int32 × FQ) (ij : Nat × Nat) : Int32 × FQ := if s.1 = -1000009 ∨ (rig σ ij.1 ij.2).1 * s.2.2 < s.2.1 * (rig σ ij.1 ij.2).2 then (10 * Int32.ofNat ij.1 + Int32.ofNat ij.2, rig σ ij.1 ij.2) else s
def rcpGo (σ : RV) (i j : Nat) : Int32 × FQ := (pr2 σ.2.1.length i j).foldl (rcpStep σ) (-1000009, (0, 1))
def rClosest (σ : RV) : Int32 := (rcpGo σ σ.2.1.length (σ.2.1.length + 1)).1
section RQ2
variable {E : EV} {h : AH} {z : Sc} {k : MK} {cs : List Int32} {σ : RV} {ps : List RV}
end RQ2
