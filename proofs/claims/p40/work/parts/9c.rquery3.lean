/-! the reference's answers on items -/
def rpkP (σ : RV) (k j : Nat) (s : Int32) : Int32 := (List.range j).foldl (fun s i => s + arR ((rit σ k).1.getD i [])) s
def rPacked (σ : RV) (n : Nat) : Int32 := (List.range n).foldl (fun s k => rpkP σ k (rit σ k).1.length s) 0
def rsgn (s : Int32) : Int32 := if (2 : Int32) ≤ s then 1 else -1
def rbv (σ : RV) (s : Int32) (k : Nat) : Int32 := if s - s / 2 * 2 = 0 then hgP (rit σ k).1 (rsgn s) 0 + rsgn s * (rit σ k).2.1 else hgP (rit σ k).1 0 (rsgn s) + rsgn s * (rit σ k).2.2
def rbf (σ : RV) (s : Int32) (n : Nat) : Int32 := (List.range n).foldl (fun m k => upM m (rbv σ s k)) (-100000)
noncomputable def rBB (σ : RV) (s : Int32) : Int32 := ifC (inP s 0 3) (if σ.2.1.length = 0 then -1000009 else rsgn s * rbf σ s σ.2.1.length) (-1000001)
def rtcA (σ : RV) (a b : Nat) (s : Int32) : Int32 := (List.range b).foldl (fun s b => s + if liePR (rit σ a).1 (rit σ b).1 ((rit σ b).2.1 - (rit σ a).2.1) ((rit σ b).2.2 - (rit σ a).2.2) = 1 then 1 else 0) s
def rTouch (σ : RV) (n : Nat) : Int32 := (List.range n).foldl (fun s a => rtcA σ a a s) 0
section RQ3
variable {E : EV} {h : AH} {z : Sc} {k : MK} {cs : List Int32} {σ : RV} {ps : List RV}
end RQ3
