/-! the reference's answers: slots and shapes -/
def RHas (σ : RV) (x i : Int32) : Prop := Slt x ∧ Pce (slR σ x) i
def OkQ (f : FQ) : Prop := (0 ≤ f.1.toInt ∧ f.1.toInt < 4611686018427387904) ∧ 0 < f.2.toInt ∧ f.2.toInt < 4611686018427387904
def rPart (f : FQ) (p : Int32) : Int32 := partN f.1.toInt.toNat f.2.toInt.toNat p
noncomputable def rPieceCount (σ : RV) (x : Int32) : Int32 := ifC (Slt x) (Int32.ofNat (slR σ x).length) (-1000001)
noncomputable def rDoubleArea (σ : RV) (x i : Int32) : Int32 := ifC (RHas σ x i) (arR ((slR σ x).getD (nx i) [])) (-1000001)
noncomputable def rExtent (σ : RV) (x d : Int32) : Int32 := ifC (Slt x ∧ Dirn d) (ifC (slR σ x = []) (-1000002) (hgP (slR σ x) (dxR d) (dyR d))) (-1000001)
noncomputable def rItemPlace (σ : RV) (i c : Int32) : Int32 := ifC (RItm σ i ∧ Prt c) (if c = 0 then (rit σ (nx i)).2.1 else (rit σ (nx i)).2.2) (-1000001)
def rig (σ : RV) (i j : Nat) : FQ := lgP (rit σ i).1 (rit σ j).1 ((rit σ j).2.1 - (rit σ i).2.1) ((rit σ j).2.2 - (rit σ i).2.2)
noncomputable def rItemGap (σ : RV) (i j p : Int32) : Int32 := ifC (RItm σ i ∧ RItm σ j ∧ ¬ i = j ∧ Prt p) (rPart (rig σ (nx i) (nx j)) p) (-1000001)
noncomputable def rFree (σ : RV) (x : Int32) : Int32 := ifC (Slt x) (ifC (slR σ x = []) (-1000002) (Int32.ofNat ((pre (nxB (bxR (slR σ x) σ.2.2.1 σ.2.2.2.1)) (nyB (bxR (slR σ x) σ.2.2.1 σ.2.2.2.1)) 0).countP (rFB σ (slR σ x))))) (-1000001)
section RQ
variable {E : EV} {h : AH} {z : Sc} {k : MK} {cs : List Int32} {σ : RV} {ps : List RV}
theorem i64_of {x : Int64} (h0 : 0 ≤ x.toInt) (h1 : x.toInt < 4611686018427387904) : x = Int64.ofNat x.toInt.toNat := by
  apply Int64.toInt_inj.mp
  rw [i64_n (by omega)]; omega
end RQ
