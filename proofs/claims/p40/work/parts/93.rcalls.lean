/-! the reference's calls: undo, slots, container, removal -/
def Mrf (h : AH) (cs : List Int32) (σ : RV) (ps : List RV) : Prop := ∃ z k, MoZ h z k ∧ MsK k σ ps ∧ TxR k cs
def Rq (cs : List Int32) (σ : RV) (ps : List RV) (h : AH) (v : Int32) : Option AV → AH → Prop := kI fun r h' => r = v ∧ Mrf h' cs σ ps ∧ Fr 313 323 h h'
theorem Rq.mk {cs : List Int32} {σ : RV} {ps : List RV} {h h' : AH} {v r : Int32} (e : v = r) (H : Mrf h' cs σ ps) (f : Fr 313 323 h h') : Rq cs σ ps h v (some (aI r)) h' := ⟨r, rfl, e.symm, H, f⟩
theorem RsF.setSlot {f g : Nat → Int32} {σ : RV} {j : Nat} {S : SH} (R : RsF f σ) (hj : j < 4) (e : ∀ i, i < 500 → (i < 4 + 40 * j ∨ 44 + 40 * j ≤ i) → g i = f i) (B : BlF g (4 + 40 * j) S) : RsF g (σ.1.set j S, σ.2) := by
  obtain ⟨P1, P2, P3, P4, P5⟩ := R
  refine ⟨⟨(List.length_set ..).trans P1.1, P1.2⟩, ⟨(e 0 (by omega) (by omega)).trans P2.1, (e 1 (by omega) (by omega)).trans P2.2.1, (e 2 (by omega) (by omega)).trans P2.2.2⟩, (e 3 (by omega) (by omega)).trans P3, fun q hq => ?_, fun i hi => ?_⟩
  · show BlF g _ ((σ.1.set j S).getD q [])
    rw [getD_set]
    by_cases c : j = q
    · subst c; rw [if_pos ⟨rfl, by rw [P1.1]; exact hj⟩]; exact B
    · rw [if_neg (fun w => c w.1)]
      exact (P4 q hq).same fun i h1 h2 => e i (by omega) (by omega)
  · have hi : i < σ.2.1.length := hi
    have := P1.2
    obtain ⟨d1, d2, d3⟩ := P5 i hi
    exact ⟨d1.same fun q h1 h2 => e q (by omega) (by omega), (e _ (by omega) (by omega)).trans d2, (e _ (by omega) (by omega)).trans d3⟩
abbrev slR (σ : RV) (x : Int32) : SH := σ.1.getD (nx x) []
def RItm (σ : RV) (i : Int32) : Prop := ¬ i < 0 ∧ ¬ Int32.ofNat σ.2.1.length ≤ i
noncomputable def rUndo (σ : RV) (ps : List RV) : Int32 × RV × List RV := ifC (ps = []) (-1000002, σ, ps) (Int32.ofNat (ps.length - 1), ps.getD (ps.length - 1) dV, ps.dropLast)
noncomputable def rClear (σ : RV) (ps : List RV) (x : Int32) : Int32 × RV × List RV := ifC (Slt x) (ifC (slR σ x = []) (-1000002, σ, ps) (Int32.ofNat (slR σ x).length, (σ.1.set (nx x) [], σ.2), pushR ps σ)) (-1000001, σ, ps)
def qtN : Nat → SH → SH
  | 0, S => S
  | n + 1, S => qtS (qtN n S)
noncomputable def rCopy (σ : RV) (ps : List RV) (x y t : Int32) : Int32 × RV × List RV := ifC (Slt x ∧ Slt y ∧ inP t 0 3) (ifC (slR σ x = []) (-1000002, σ, ps) (Int32.ofNat (slR σ x).length, (σ.1.set (nx y) (qtN (nx t) (slR σ x)), σ.2), pushR ps σ)) (-1000001, σ, ps)
noncomputable def rLoad (cs : List Int32) (σ : RV) (ps : List RV) (x : Int32) : Int32 × List Int32 × RV × List RV := ifC (Slt x) (if (rwGo cs 3 0 []).1 = true then (Int32.ofNat (rwGo cs 3 0 []).2.2.length, [], (σ.1.set (nx x) (rwGo cs 3 0 []).2.2, σ.2), pushR ps σ) else (-10 - Int32.ofNat (rwGo cs 3 0 []).2.1, cs, σ, ps)) (-1000001, cs, σ, ps)
noncomputable def rCont (σ : RV) (ps : List RV) (w hh : Int32) : Int32 × RV × List RV := ifC (inP w 1 40 ∧ inP hh 1 40) (Int32.ofNat σ.2.1.length, (σ.1, [], w, hh, σ.2.2.2.2), pushR ps σ) (-1000001, σ, ps)
noncomputable def rRemove (σ : RV) (ps : List RV) (i : Int32) : Int32 × RV × List RV := ifC (RItm σ i) (Int32.ofNat (σ.2.1.length - 1), (σ.1, σ.2.1.eraseIdx (nx i), σ.2.2), pushR ps σ) (-1000001, σ, ps)
section RC
variable {E : EV} {h : AH} {z : Sc} {k : MK} {cs : List Int32} {σ : RV} {ps : List RV}
end RC
