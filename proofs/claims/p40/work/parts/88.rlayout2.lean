/-! the reference's layout, item by item -/
def LaO (h : AH) (L : List LI) : Prop := ∃ v, h[321]? = some (.inl (0, v)) ∧ v.length = 90 ∧ L.length ≤ 29 ∧ ∀ j, j < L.length → (v.getD (3 * j) 0, v.getD (3 * j + 1) 0, v.getD (3 * j + 2) 0) = L.getD j (0, 0, 0)
theorem LaO.fr {h h' : AH} {L : List LI} {lo hi : Nat} (H : LaO h L) (f : Fr lo hi h h') (d : 322 ≤ lo ∨ hi ≤ 321) : LaO h' L := by
  obtain ⟨v, h1, h2⟩ := H
  exact ⟨v, (f.2 _ (by omega)).trans h1, h2⟩
section LL
variable {E : EV} {h : AH} {k : MK} {cs : List Int32} {p : Nat} {w : Bool} {la : Int32} {L : List LI}
theorem RdZ.ad (H : RdZ h k p w la) : ∃ fs, h[313]? = some (.inr (11, fs)) := by
  obtain ⟨z, H, -⟩ := H
  exact ⟨_, H.1⟩
end LL
