/-! the answers on shapes agree -/
def StR (M : Nat → SH) (σ : SV) (ρ : RV) : Prop := ((σ.1.length = 4 ∧ ρ.1.length = 4) ∧ ∀ j, j < 4 → SR (M (σ.1.getD j 0)) (ρ.1.getD j []) ∧ (ρ.1.getD j []).length ≤ 3) ∧ (ItsR M σ.2.1 ρ.2.1 ∧ ρ.2.1.length ≤ 8) ∧ (σ.2.2 = ρ.2.2 ∧ Whc ρ.2.2) ∧ ∀ i, i < ρ.2.1.length → rCon (rit ρ i).1 ρ.2.2.1 ρ.2.2.2.1 (rit ρ i).2.1 (rit ρ i).2.2 = true
theorem ifC_cong {α : Type} {p q : Prop} {a a' b b' : α} (h : p ↔ q) (ha : p → a = a') (hb : ¬ p → b = b') : ifC p a b = ifC q a' b' := by
  by_cases c : p
  · rw [ifC_pos c, ifC_pos (h.mp c), ha c]
  · rw [ifC_neg c, ifC_neg fun k => c (h.mpr k), hb c]
theorem Slt.lt {x : Int32} (h : Slt x) : nx x < 4 := (nat_of (n := 4) h.1 h.2 (by omega)).2
theorem Nea.bd {x : Int32} (h : Nea x) : -60 ≤ x.toInt ∧ x.toInt ≤ 60 := by
  obtain ⟨a, b⟩ := h
  have z1 : (-60 : Int32).toInt = -60 := by decide
  have z2 : (60 : Int32).toInt = 60 := by decide
  rw [Int32.lt_iff_toInt_lt, z1] at a
  rw [Int32.lt_iff_toInt_lt, z2] at b
  omega
theorem near_bd {x y : Int32} (hx : Nea x) (hy : Nea y) : Bd (x, y) ∧ Bq (x, y) ∧ Nr (x, y) := by
  have a := hx.bd
  have b := hy.bd
  exact ⟨⟨by dsimp only; omega, by dsimp only; omega, by dsimp only; omega, by dsimp only; omega⟩, ⟨by dsimp only; omega, by dsimp only; omega, by dsimp only; omega, by dsimp only; omega⟩, by dsimp only; omega, by dsimp only; omega, by dsimp only; omega, by dsimp only; omega⟩
theorem dir_eq {d : Int32} (h : Dirn d) : dirxF (nx d) = dxR d ∧ diryF (nx d) = dyR d ∧ Dv (dxR d, dyR d) ∧ Nb (dxR d, dyR d) := by
  obtain ⟨e, l⟩ := nat_of (n := 8) h.1 h.2 (by omega)
  have l : nx d < 8 := l
  have e : d = Int32.ofNat (nx d) := e
  generalize nx d = j at *
  subst e
  have : j = 0 ∨ j = 1 ∨ j = 2 ∨ j = 3 ∨ j = 4 ∨ j = 5 ∨ j = 6 ∨ j = 7 := by omega
  rcases this with rfl | rfl | rfl | rfl | rfl | rfl | rfl | rfl <;> exact ⟨by decide, by decide, ⟨⟨by decide, by decide, by decide, by decide⟩, by decide⟩, by decide, by decide, by decide, by decide⟩
section QU
variable {M : Nat → SH} {σ : SV} {ρ : RV}
theorem StR.sl (H : StR M σ ρ) {x : Int32} (h : Slt x) : SR (slM M σ (nx x)) (slR ρ x) ∧ (slR ρ x).length ≤ 3 := H.1.2 _ h.lt
theorem SR.nil {S S' : SH} (H : SR S S') : S = [] ↔ S' = [] := by
  rw [← List.length_eq_zero_iff, ← List.length_eq_zero_iff, H.1]
theorem StR.has (H : StR M σ ρ) (x i : Int32) : Has M σ x i ↔ RHas ρ x i := by
  unfold Has RHas
  constructor
  · rintro ⟨a, b⟩
    refine ⟨a, ?_⟩
    unfold Pce at *
    rw [← (H.sl a).1.1]; exact b
  · rintro ⟨a, b⟩
    refine ⟨a, ?_⟩
    unfold Pce at *
    rw [(H.sl a).1.1]; exact b
theorem StR.pce (H : StR M σ ρ) {x i : Int32} (h : Has M σ x i) : CP ((slM M σ (nx x)).getD (nx i) []) ((slR ρ x).getD (nx i) []) := by
  have s := H.sl h.1
  have hl : (slM M σ (nx x)).length ≤ 3 := by rw [s.1.1]; exact s.2
  have l := (nat_of h.2.1 h.2.2 (by show (slM M σ (nx x)).length < _; omega)).2
  exact s.1.2 _ l
theorem q_pieceCount (H : StR M σ ρ) (x : Int32) : cPieceCount M σ x = rPieceCount ρ x := ifC_cong Iff.rfl (fun h => by rw [(H.sl h).1.1]) fun _ => rfl
theorem q_doubleArea (H : StR M σ ρ) (x i : Int32) : cDoubleArea M σ x i = rDoubleArea ρ x i := ifC_cong (H.has x i) (fun h => area_eq (H.pce h)) fun _ => rfl
theorem q_extent (H : StR M σ ρ) (x d : Int32) : cExtent M σ x d = rExtent ρ x d := ifC_cong Iff.rfl (fun h => ifC_cong (H.sl h.1).1.nil (fun _ => rfl) fun n => by
  have e := dir_eq h.2
  rw [e.1, e.2.1]
  exact reach_eq (n := (dxR d, dyR d)) (H.sl h.1).1 n e.2.2.2) fun _ => rfl
theorem BR.ok {f : FQ} (h : BR f) (p : 0 < f.2.toInt) : OkQ f := by
  obtain ⟨⟨a, b⟩, c, d⟩ := h
  exact ⟨⟨a, by omega⟩, p, by omega⟩
end QU
