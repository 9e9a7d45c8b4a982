/-! the reference slides one item, compacts, lays a layout -/
/-- how far an item slides -/
noncomputable def slN (σ : RV) (i : Nat) (d : Int32) : Nat := @dite Nat (∃ n, SlE σ i d n) (Classical.propDecidable _) (fun h => Classical.choose h) (fun _ => 0)
theorem slN_spec {σ : RV} {i : Nat} {d : Int32} (h : ∃ n, SlE σ i d n) : SlE σ i d (slN σ i d) := by
  unfold slN; rw [@dif_pos _ (Classical.propDecidable _) h]; exact Classical.choose_spec h
noncomputable def rcOne (σ : RV) (i : Nat) (d : Int32) : RV := rSet σ i (psn σ i d (slN σ i d))
noncomputable def rcItem (s : RV × Nat) (i : Nat) : RV × Nat := (rcOne (rcOne s.1 i 6) i 4, s.2 + slN s.1 i 6 + slN (rcOne s.1 i 6) i 4)
noncomputable def rcR (σ : RV) (j : Nat) : RV × Nat := (List.range j).foldl rcItem (σ, 0)
theorem rcR_succ {σ : RV} {j : Nat} : rcR σ (j + 1) = rcItem (rcR σ j) j := by
  unfold rcR; rw [List.range_succ, List.foldl_append]; rfl
noncomputable def rcGo : Nat → RV → Nat → RV × Nat
  | 0, σ, t => (σ, t)
  | f + 1, σ, t => if (rcR σ σ.2.1.length).2 = 0 then ((rcR σ σ.2.1.length).1, t) else rcGo f (rcR σ σ.2.1.length).1 (t + (rcR σ σ.2.1.length).2)
theorem rcGo_succ {f t : Nat} {σ : RV} : rcGo (f + 1) σ t = if (rcR σ σ.2.1.length).2 = 0 then ((rcR σ σ.2.1.length).1, t) else rcGo f (rcR σ σ.2.1.length).1 (t + (rcR σ σ.2.1.length).2) := rfl
/-- a state from which the rounds end -/
def Cmp (Gd : RV → Prop) (pot : RV → Nat) : Prop :=
  (∀ σ i d, Gd σ → i < σ.2.1.length → (d = 4 ∨ d = 6) → ∃ n, SlE σ i d n) ∧ (∀ σ i d, Gd σ → i < σ.2.1.length → (d = 4 ∨ d = 6) → Gd (rcOne σ i d)) ∧ (∀ σ i d, Gd σ → i < σ.2.1.length → (d = 4 ∨ d = 6) → pot (rcOne σ i d) + slN σ i d ≤ pot σ) ∧ ∀ σ, Gd σ → pot σ < 100000
noncomputable def rCompact (σ : RV) (ps : List RV) (f : Nat) : Int32 × RV × List RV := if rCan σ = true then (Int32.ofNat (rcGo f σ 0).2, (rcGo f σ 0).1, pushR ps σ) else (-1000009, σ, ps)
section RN
variable {E : EV} {h : AH} {z : Sc} {k : MK} {cs : List Int32} {σ : RV} {ps : List RV} {b : Nat} {S : SH}
variable {Gd : RV → Prop} {pot : RV → Nat}
end RN
