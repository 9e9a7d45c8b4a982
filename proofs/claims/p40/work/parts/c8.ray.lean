/-! rays: class and reference at one pair of pieces -/
/-- a place, and a step -/
def Bq (v : PT) : Prop := -150 ≤ v.1.toInt ∧ v.1.toInt ≤ 150 ∧ -150 ≤ v.2.toInt ∧ v.2.toInt ≤ 150
def Dv (v : PT) : Prop := (-1 ≤ v.1.toInt ∧ v.1.toInt ≤ 1 ∧ -1 ≤ v.2.toInt ∧ v.2.toInt ≤ 1) ∧ ¬ (v.1.toInt = 0 ∧ v.2.toInt = 0)
section RA
variable {V : List PT} {x y dx dy : Int32}
end RA
