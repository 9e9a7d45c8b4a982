/-! the reference's state, and the states it saves -/
abbrev RI : Type := SH × Int32 × Int32
abbrev RV : Type := List SH × List RI × Int32 × Int32 × Int32
abbrev dI : RI := ([], 0, 0)
abbrev dV : RV := ([], [], 0, 0, 0)
def BlF (f : Nat → Int32) (b : Nat) (S : SH) : Prop := S.length ≤ 3 ∧ f b = Int32.ofNat S.length ∧ ∀ p, p < S.length → f (b + 1 + p) = Int32.ofNat (S.getD p []).length ∧ (1 ≤ (S.getD p []).length ∧ (S.getD p []).length ≤ 6) ∧ ∀ v, v < (S.getD p []).length → (f (b + 4 + 12 * p + 2 * v), f (b + 5 + 12 * p + 2 * v)) = (S.getD p []).getD v (0, 0)
theorem BlF.tr {f g : Nat → Int32} {a b : Nat} {S : SH} (h : BlF f a S) (e : ∀ i, i < 40 → g (b + i) = f (a + i)) : BlF g b S := by
  obtain ⟨h1, h2, h3⟩ := h
  refine ⟨h1, by have := e 0 (by omega); rw [Nat.add_zero, Nat.add_zero] at this; rw [this, h2], fun p hp => ?_⟩
  obtain ⟨c1, c2, c3⟩ := h3 p hp
  refine ⟨?_, c2, fun v hv => ?_⟩
  · rw [Nat.add_assoc, e _ (by omega), ← Nat.add_assoc]; exact c1
  · have e1 := e (4 + 12 * p + 2 * v) (by omega)
    have e2 := e (5 + 12 * p + 2 * v) (by omega)
    rw [show b + 4 + 12 * p + 2 * v = b + (4 + 12 * p + 2 * v) by omega, show b + 5 + 12 * p + 2 * v = b + (5 + 12 * p + 2 * v) by omega, e1, e2, ← c3 v hv]
    congr 2 <;> omega
theorem BlF.same {f g : Nat → Int32} {b : Nat} {S : SH} (h : BlF f b S) (e : ∀ i, b ≤ i → i < b + 40 → g i = f i) : BlF g b S := h.tr fun i hi => e _ (by omega) (by omega)
def RsF (f : Nat → Int32) (σ : RV) : Prop := (σ.1.length = 4 ∧ σ.2.1.length ≤ 8) ∧ (f 0 = σ.2.2.1 ∧ f 1 = σ.2.2.2.1 ∧ f 2 = σ.2.2.2.2) ∧ f 3 = Int32.ofNat σ.2.1.length ∧ (∀ j, j < 4 → BlF f (4 + 40 * j) (σ.1.getD j [])) ∧ ∀ i, i < σ.2.1.length → BlF f (164 + 42 * i) (σ.2.1.getD i dI).1 ∧ f (204 + 42 * i) = (σ.2.1.getD i dI).2.1 ∧ f (205 + 42 * i) = (σ.2.1.getD i dI).2.2
theorem RsF.same {f g : Nat → Int32} {σ : RV} (h : RsF f σ) (e : ∀ i, i < 500 → g i = f i) : RsF g σ := by
  obtain ⟨h1, ⟨a1, a2, a3⟩, h3, h4, h5⟩ := h
  refine ⟨h1, ⟨(e _ (by omega)).trans a1, (e _ (by omega)).trans a2, (e _ (by omega)).trans a3⟩, (e _ (by omega)).trans h3, fun j hj => (h4 j hj).same fun i h1 h2 => e i (by omega), fun i hi => ?_⟩
  obtain ⟨b1, b2, b3⟩ := h5 i hi
  exact ⟨b1.same fun q h1 h2 => e q (by omega), (e _ (by omega)).trans b2, (e _ (by omega)).trans b3⟩
theorem RsF.slot {k : MK} {σ : RV} (h : RsF (sA k) σ) {j : Nat} (hj : j < 4) : Blk k (4 + 40 * j) (σ.1.getD j []) := ⟨by omega, h.2.2.2.1 j hj⟩
theorem RsF.item {k : MK} {σ : RV} (h : RsF (sA k) σ) {i : Nat} (hi : i < σ.2.1.length) : Blk k (164 + 42 * i) (σ.2.1.getD i dI).1 := ⟨by have := h.1.2; omega, (h.2.2.2.2 i hi).1⟩
def MsK (k : MK) (σ : RV) (ps : List RV) : Prop := RsF (sA k) σ ∧ k.2.2.2.1 = Int32.ofNat ps.length ∧ ps.length ≤ 6 ∧ ∀ j, j < ps.length → RsF (fun i => k.2.1.getD (500 * j + i) 0) (ps.getD j dV)
def pushR (ps : List RV) (σ : RV) : List RV := if ps.length < 6 then ps ++ [σ] else ps.tail ++ [σ]
section RT
variable {E : EV} {h : AH} {z : Sc} {k : MK} {cs : List Int32} {σ : RV} {ps : List RV}
end RT
