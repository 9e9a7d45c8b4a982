/-! the reference reads a shape, to its end; its text -/
noncomputable def rwGo (cs : List Int32) : Nat → Nat → SH → R3 SH
  | 0, p, S => shEnd cs p S
  | t + 1, p, S => if cur cs (skp cs p) = -1 then shEnd cs (skp cs p) S else if (pcGo cs 6 (skp cs p) []).1 = true then rwGo cs t (pcGo cs 6 (skp cs p) []).2.1 (S ++ [(pcGo cs 6 (skp cs p) []).2.2]) else (false, (pcGo cs 6 (skp cs p) []).2.1, S)
theorem rwGo_succ {cs : List Int32} {t p : Nat} {S : SH} : rwGo cs (t + 1) p S = if cur cs (skp cs p) = -1 then shEnd cs (skp cs p) S else if (pcGo cs 6 (skp cs p) []).1 = true then rwGo cs t (pcGo cs 6 (skp cs p) []).2.1 (S ++ [(pcGo cs 6 (skp cs p) []).2.2]) else (false, (pcGo cs 6 (skp cs p) []).2.1, S) := rfl
theorem shEnd_map {cs : List Int32} {p : Nat} {S : SH} : shEnd cs p (S.map rotP) = ((shEnd cs p S).1, (shEnd cs p S).2.1, (shEnd cs p S).2.2.map rotP) := by
  unfold shEnd
  simp
/-- the class keeps each piece from its lowest vertex on -/
theorem shGo_rw {cs : List Int32} : ∀ {t p : Nat} {S : SH}, shGo cs t p (S.map rotP) = ((rwGo cs t p S).1, (rwGo cs t p S).2.1, (rwGo cs t p S).2.2.map rotP) := fun {t} => by
  induction t with
  | zero => intro p S; exact shEnd_map
  | succ t ih =>
    intro p S
    rw [shGo_succ, rwGo_succ]
    by_cases c1 : cur cs (skp cs p) = -1
    · rw [if_pos c1, if_pos c1]; exact shEnd_map
    · rw [if_neg c1, if_neg c1]
      by_cases c2 : (pcGo cs 6 (skp cs p) []).1 = true
      · rw [if_pos c2, if_pos c2, ← ih, List.map_append]; rfl
      · rw [if_neg c2, if_neg c2]
section RS2
variable {E : EV} {h : AH} {z : Sc} {k : MK} {cs : List Int32} {la : Int32}
end RS2
