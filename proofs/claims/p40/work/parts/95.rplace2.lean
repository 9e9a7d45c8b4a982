/-! the reference finds the lowest place, places, places turned -/
def bxR (S : SH) (w hh : Int32) : BX := (hgP S (-1) 0, hgP S 0 (-1), w - hgP S 1 0, hh - hgP S 0 1)
def rFB (σ : RV) (S : SH) (k : Nat × Nat) : Bool := rFit σ S (atB (bxR S σ.2.2.1 σ.2.2.2.1) k).1 (atB (bxR S σ.2.2.1 σ.2.2.2.1) k).2 (-1000009)
def rFind (σ : RV) (S : SH) : Option (Nat × Nat) := (pre (nxB (bxR S σ.2.2.1 σ.2.2.2.1)) (nyB (bxR S σ.2.2.1 σ.2.2.2.1)) 0).find? (rFB σ S)
noncomputable def rErr (σ : RV) (x : Int32) : Int32 := ifC (Slt x) (ifC (slR σ x = []) (-1000002) (if σ.2.1.length = 8 then -1000003 else 0)) (-1000001)
def rAdd (σ : RV) (S : SH) (v : PT) : RV := (σ.1, σ.2.1 ++ [(S, v.1, v.2)], σ.2.2)
noncomputable def rPlace (σ : RV) (ps : List RV) (x u v : Int32) : Int32 × RV × List RV := ifC (Slt x ∧ Nea u ∧ Nea v) (ifC (slR σ x = []) (-1000002, σ, ps) (if rFit σ (slR σ x) u v (-1000009) = true then (if σ.2.1.length = 8 then (-1000003, σ, ps) else (Int32.ofNat σ.2.1.length, rAdd σ (slR σ x) (u, v), pushR ps σ)) else (-1000002, σ, ps))) (-1000001, σ, ps)
noncomputable def rPlaceBL (σ : RV) (ps : List RV) (x : Int32) : Int32 × RV × List RV := if 0 ≤ rErr σ x then (match rFind σ (slR σ x) with | none => (-1000009, σ, ps) | some q => (Int32.ofNat σ.2.1.length, rAdd σ (slR σ x) (atB (bxR (slR σ x) σ.2.2.1 σ.2.2.2.1) q), pushR ps σ)) else (rErr σ x, σ, ps)
section RF
variable {E : EV} {h : AH} {z : Sc} {k : MK} {cs : List Int32} {σ : RV} {ps : List RV} {b : Nat} {S : SH}
end RF
