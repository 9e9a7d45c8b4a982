/-! the hull of the reference: points, the next corner, corners -/
def PtO (h : AH) (T : List PT) : Prop := ∃ vx vy, (h[317]? = some (.inl (0, vx)) ∧ vx.length = 36) ∧ (h[318]? = some (.inl (0, vy)) ∧ vy.length = 36) ∧ T.length ≤ 36 ∧ ∀ j, j < T.length → (vx.getD j 0, vy.getD j 0) = T.getD j (0, 0)
def CoO (h : AH) (C : List PT) : Prop := ∃ vx vy, (h[319]? = some (.inl (0, vx)) ∧ vx.length = 37) ∧ (h[320]? = some (.inl (0, vy)) ∧ vy.length = 37) ∧ C.length ≤ 37 ∧ ∀ j, j < C.length → (vx.getD j 0, vy.getD j 0) = C.getD j (0, 0)
theorem PtO.fr {h h' : AH} {T : List PT} {lo hi : Nat} (H : PtO h T) (f : Fr lo hi h h') (d : 319 ≤ lo ∨ hi ≤ 317) : PtO h' T := by
  obtain ⟨vx, vy, h1, h2, h3⟩ := H
  exact ⟨vx, vy, ⟨(f.2 _ (by omega)).trans h1.1, h1.2⟩, ⟨(f.2 _ (by omega)).trans h2.1, h2.2⟩, h3⟩
theorem CoO.fr {h h' : AH} {T : List PT} {lo hi : Nat} (H : CoO h T) (f : Fr lo hi h h') (d : 321 ≤ lo ∨ hi ≤ 319) : CoO h' T := by
  obtain ⟨vx, vy, h1, h2, h3⟩ := H
  exact ⟨vx, vy, ⟨(f.2 _ (by omega)).trans h1.1, h1.2⟩, ⟨(f.2 _ (by omega)).trans h2.1, h2.2⟩, h3⟩
section HR
variable {E : EV} {h : AH} {z : Sc} {k : MK} {T C : List PT}
end HR
