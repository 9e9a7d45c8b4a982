/-! the reference lays a layout -/
def rllGo (σ : RV) : List LI → List RI → Option (List RI)
  | [], acc => some acc
  | v :: L, acc => if (slR σ v.1).isEmpty = false ∧ acc.length < 8 ∧ rFit (σ.1, acc, σ.2.2) (slR σ v.1) v.2.1 v.2.2 (-1000009) = true then rllGo σ L (acc ++ [(slR σ v.1, v.2.1, v.2.2)]) else none
noncomputable def rLay (cs : List Int32) (σ : RV) (ps : List RV) : Int32 × List Int32 × RV × List RV :=
  if (lyR cs).1 = true then (match rllGo σ (lyR cs).2.2 [] with
      | none => (-1000002, cs, σ, ps)
      | some its => (Int32.ofNat (lyR cs).2.2.length, [], (σ.1, its, σ.2.2), pushR ps σ))
  else (-10 - Int32.ofNat (lyR cs).2.1, cs, σ, ps)
section RL
variable {E : EV} {h : AH} {z : Sc} {k : MK} {cs : List Int32} {σ : RV} {ps : List RV} {L : List LI}
end RL
