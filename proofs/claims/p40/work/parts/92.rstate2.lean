/-! the reference's parts of a change of state -/
def qt (v : PT) : PT := (-v.2, v.1)
def qtS (S : SH) : SH := S.map (List.map qt)
theorem getD_mapq {α β : Type} {l : List α} {f : α → β} {j : Nat} {d : α} {e : β} (h : j < l.length) : (l.map f).getD j e = f (l.getD j d) := by
  rw [List.getD_eq_getElem?_getD, List.getD_eq_getElem?_getD, List.getElem?_map, List.getElem?_eq_getElem h]; rfl
section RU
variable {E : EV} {h : AH} {z : Sc} {k : MK} {cs : List Int32} {σ : RV} {ps : List RV}
end RU
