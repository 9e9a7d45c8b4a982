/-! the reference places turned -/
abbrev TS : Type := Int32 × PT × PT
def rTv (σ : RV) (S : SH) (q : Nat × Nat) : PT := atB (bxR S σ.2.2.1 σ.2.2.2.1) q
def rTe (S : SH) (v : PT) : PT := (v.2 + hgP S 0 1, v.1 + hgP S 1 0)
def rTs (σ : RV) (S0 : SH) (s : TS) (t : Nat) : TS := match rFind σ (qtN t S0) with
  | none => s
  | some q => if (rTe (qtN t S0) (rTv σ (qtN t S0) q)).1 < s.2.2.1 ∨ (rTe (qtN t S0) (rTv σ (qtN t S0) q)).1 = s.2.2.1 ∧ (rTe (qtN t S0) (rTv σ (qtN t S0) q)).2 < s.2.2.2 then (Int32.ofNat t, rTv σ (qtN t S0) q, rTe (qtN t S0) (rTv σ (qtN t S0) q)) else s
def rTB (σ : RV) (S : SH) (n : Nat) : TS := (List.range n).foldl (rTs σ S) (-1000009, (0, 0), (100000, 100000))
theorem rTB_succ {σ : RV} {S : SH} {n : Nat} : rTB σ S (n + 1) = rTs σ S (rTB σ S n) n := by
  unfold rTB; rw [List.range_succ, List.foldl_append]; rfl
noncomputable def rPlaceT (σ : RV) (ps : List RV) (x : Int32) : Int32 × RV × List RV := if 0 ≤ rErr σ x then (if (rTB σ (slR σ x) 4).1 = -1000009 then (-1000009, σ, ps) else (Int32.ofNat σ.2.1.length, rAdd σ (qtN (nx (rTB σ (slR σ x) 4).1) (slR σ x)) (rTB σ (slR σ x) 4).2.1, pushR ps σ)) else (rErr σ x, σ, ps)
section RG
variable {E : EV} {h : AH} {z : Sc} {k : MK} {cs : List Int32} {σ : RV} {ps : List RV} {b : Nat} {S : SH}
end RG
