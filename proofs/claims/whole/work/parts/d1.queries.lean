/-! the answers on shapes agree -/
def StR (M : Nat → SH) (σ : SV) (ρ : RV) : Prop := ((σ.1.length = 4 ∧ ρ.1.length = 4) ∧ ∀ j, j < 4 → SR (M (σ.1.getD j 0)) (ρ.1.getD j []) ∧ (ρ.1.getD j []).length ≤ 3) ∧ (ItsR M σ.2.1 ρ.2.1 ∧ ρ.2.1.length ≤ 8) ∧ (σ.2.2 = ρ.2.2 ∧ Whc ρ.2.2) ∧ ∀ i, i < ρ.2.1.length → rCon (rit ρ i).1 ρ.2.2.1 ρ.2.2.2.1 (rit ρ i).2.1 (rit ρ i).2.2 = true
theorem ifC_cong {α : Type} {p q : Prop} {a a' b b' : α} (h : p ↔ q) (ha : p → a = a') (hb : ¬ p → b = b') : ifC p a b = ifC q a' b' := by
  by_cases c : p
  · rw [ifC_pos c, ifC_pos (h.mp c), ha c]
  · rw [ifC_neg c, ifC_neg fun k => c (h.mpr k), hb c]
theorem Slt.lt {x : Int32} (h : Slt x) : nx x < 4 := (nat_of (n := 4) h.1 h.2 (by omega)).2
theorem Nea.bd {x : Int32} (h : Nea x) : -60 ≤ x.toInt ∧ x.toInt ≤ 60 := by
  obtain ⟨a, b⟩ := h
  have z1 : (-60 : Int32).toInt = -60 := by decide
  have z2 : (60 : Int32).toInt = 60 := by decide
  rw [Int32.lt_iff_toInt_lt, z1] at a
  rw [Int32.lt_iff_toInt_lt, z2] at b
  omega
theorem near_bd {x y : Int32} (hx : Nea x) (hy : Nea y) : Bd (x, y) ∧ Bq (x, y) ∧ Nr (x, y) := by
  have a := hx.bd
  have b := hy.bd
  exact ⟨⟨by dsimp only; omega, by dsimp only; omega, by dsimp only; omega, by dsimp only; omega⟩, ⟨by dsimp only; omega, by dsimp only; omega, by dsimp only; omega, by dsimp only; omega⟩, by dsimp only; omega, by dsimp only; omega, by dsimp only; omega, by dsimp only; omega⟩
theorem dir_eq {d : Int32} (h : Dirn d) : dirxF (nx d) = dxR d ∧ diryF (nx d) = dyR d ∧ Dv (dxR d, dyR d) ∧ Nb (dxR d, dyR d) := by
  obtain ⟨e, l⟩ := nat_of (n := 8) h.1 h.2 (by omega)
  have l : nx d < 8 := l
  have e : d = Int32.ofNat (nx d) := e
  generalize nx d = j at *
  subst e
  have : j = 0 ∨ j = 1 ∨ j = 2 ∨ j = 3 ∨ j = 4 ∨ j = 5 ∨ j = 6 ∨ j = 7 := by omega
  rcases this with rfl | rfl | rfl | rfl | rfl | rfl | rfl | rfl <;> exact ⟨by decide, by decide, ⟨⟨by decide, by decide, by decide, by decide⟩, by decide⟩, by decide, by decide, by decide, by decide⟩
section QU
variable {M : Nat → SH} {σ : SV} {ρ : RV}
theorem StR.sl (H : StR M σ ρ) {x : Int32} (h : Slt x) : SR (slM M σ (nx x)) (slR ρ x) ∧ (slR ρ x).length ≤ 3 := H.1.2 _ h.lt
theorem SR.nil {S S' : SH} (H : SR S S') : S = [] ↔ S' = [] := by
  rw [← List.length_eq_zero_iff, ← List.length_eq_zero_iff, H.1]
theorem StR.has (H : StR M σ ρ) (x i : Int32) : Has M σ x i ↔ RHas ρ x i := by
  unfold Has RHas
  constructor
  · rintro ⟨a, b⟩
    refine ⟨a, ?_⟩
    unfold Pce at *
    rw [← (H.sl a).1.1]; exact b
  · rintro ⟨a, b⟩
    refine ⟨a, ?_⟩
    unfold Pce at *
    rw [(H.sl a).1.1]; exact b
theorem StR.pce (H : StR M σ ρ) {x i : Int32} (h : Has M σ x i) : CP ((slM M σ (nx x)).getD (nx i) []) ((slR ρ x).getD (nx i) []) := by
  have s := H.sl h.1
  have hl : (slM M σ (nx x)).length ≤ 3 := by rw [s.1.1]; exact s.2
  have l := (nat_of h.2.1 h.2.2 (by show (slM M σ (nx x)).length < _; omega)).2
  exact s.1.2 _ l
theorem q_pieceCount (H : StR M σ ρ) (x : Int32) : cPieceCount M σ x = rPieceCount ρ x := ifC_cong Iff.rfl (fun h => by rw [(H.sl h).1.1]) fun _ => rfl
theorem q_doubleArea (H : StR M σ ρ) (x i : Int32) : cDoubleArea M σ x i = rDoubleArea ρ x i := ifC_cong (H.has x i) (fun h => area_eq (H.pce h)) fun _ => rfl
theorem hull_ok (H : StR M σ ρ) {x : Int32} (h : Slt x) (hne : ¬ slR ρ x = []) : ∃ m, HuE (slR ρ x).flatten m := (hull_same (H.sl h).1 (fun q => hne ((H.sl h).1.nil.mp q)) (H.sl h).2).2.1
theorem q_hullSize (H : StR M σ ρ) (x : Int32) : cHullSize M σ x = rHullSize ρ x := ifC_cong Iff.rfl (fun h => ifC_cong (H.sl h).1.nil (fun _ => rfl) fun n => by rw [(hull_same (H.sl h).1 n (H.sl h).2).1]) fun _ => rfl
theorem nx_ge {v : Int32} {n : Nat} (h0 : ¬ v < 0) (h : v < Int32.ofNat n) (hn : n < 2147483648) : nx v < n := (nat_of h0 (fun q => by rw [Int32.lt_iff_toInt_lt] at h; rw [Int32.le_iff_toInt_le] at q; omega) hn).2
theorem vtx_same {L L' : List PT} (e : L = L') (l0 : low L = 0) {k : Nat} (hk : k < L.length) : vAt L k = L'.getD k (0, 0) := by
  rw [vAt_low0 l0 hk, e]
theorem q_hullVertex (H : StR M σ ρ) (x v c : Int32) : cHullVertex M σ x v c = rHullVertex ρ x v c := by
  refine ifC_cong ⟨fun h => ⟨h.1, fun q => ?_, h.2.1⟩, fun h => ⟨h.1, h.2.2, i32_not_lt.mp h.2.1⟩⟩ (fun h => ifC_cong (H.sl h.1).1.nil (fun _ => rfl) fun n => ?_) fun _ => rfl
  · exact absurd h.2.2 (i32_not_le.mpr q)
  · obtain ⟨e, -, l0, l18⟩ := hull_same (H.sl h.1).1 n (H.sl h.1).2
    refine ifC_cong (by rw [e]) (fun lt => ?_) fun _ => rfl
    have lt := nx_ge (fun q => absurd h.2.2 (i32_not_le.mpr q)) lt (by omega)
    rw [vtx_same e l0 lt]
theorem q_extent (H : StR M σ ρ) (x d : Int32) : cExtent M σ x d = rExtent ρ x d := ifC_cong Iff.rfl (fun h => ifC_cong (H.sl h.1).1.nil (fun _ => rfl) fun n => by
  have e := dir_eq h.2
  rw [e.1, e.2.1]
  exact reach_eq (n := (dxR d, dyR d)) (H.sl h.1).1 n e.2.2.2) fun _ => rfl
theorem prt01 {f : Int32} (h : Prt f) : f = 0 ∨ f = 1 := h
theorem sum_ok (H : StR M σ ρ) {f x i y j : Int32} (hf : Prt f) (h1 : RHas ρ x i) (h2 : RHas ρ y j) : ∃ m, HuE (rsT ρ (1 - 2 * f) x i y j) m := (sum_same (H.pce ((H.has x i).mpr h1)) (H.pce ((H.has y j).mpr h2)) hf).2.1
theorem sum_M (H : StR M σ ρ) {f x i y j : Int32} (hf : Prt f) (h1 : Has M σ x i) (h2 : Has M σ y j) : sumM M σ f x i y j = hullR (rsT ρ (1 - 2 * f) x i y j) ∧ low (sumM M σ f x i y j) = 0 ∧ (sumM M σ f x i y j).length ≤ 18 ∧ sumM M σ f x i y j ≠ [] := by
  obtain ⟨a, -, b, c, d⟩ := sum_same (H.pce h1) (H.pce h2) hf
  exact ⟨a, b, c, d.ne⟩
theorem q_sumSize (H : StR M σ ρ) (f x i y j : Int32) : cSumSize M σ f x i y j = rSumSize ρ f x i y j := ifC_cong (by rw [H.has, H.has]) (fun h => by rw [(sum_M H h.1 h.2.1 h.2.2).1]) fun _ => rfl
theorem q_sumVertex (H : StR M σ ρ) (f x i y j v : Int32) : cSumVertex M σ f x i y j v = rSumVertex ρ f x i y j v := ifC_cong (by rw [H.has, H.has]) (fun h => by
  obtain ⟨a, b, c, -⟩ := sum_M H h.1 h.2.1 h.2.2.1
  refine ifC_cong (by rw [a]) (fun lt => ?_) fun _ => rfl
  have lt := nx_ge (i32_not_lt.mpr h.2.2.2) lt (by omega)
  rw [vtx_same a b lt]) fun _ => rfl
theorem q_sumArea (H : StR M σ ρ) (x i y j : Int32) : cSumArea M σ x i y j = rSumArea ρ x i y j := ifC_cong (by rw [H.has, H.has]) (fun h => by
  obtain ⟨a, b, c, d⟩ := sum_M H (f := 0) (Or.inl rfl) h.1 h.2
  rw [area_sum d b, a]
  rfl) fun _ => rfl
theorem StR.em (H : StR M σ ρ) {a b : Int32} (ha : Slt a) (hb : Slt b) : Em2 M σ a b ↔ REm ρ a b := by
  unfold Em2 REm
  rw [(H.sl ha).1.nil, (H.sl hb).1.nil]
theorem q_contact (H : StR M σ ρ) (a b x y : Int32) : cContact M σ a b x y = rContact ρ a b x y := ifC_cong ⟨fun h => ⟨⟨h.1, h.2.1⟩, h.2.2⟩, fun h => ⟨h.1.1, h.1.2, h.2⟩⟩ (fun h => ifC_cong (H.em h.1 h.2.1) (fun _ => rfl) fun _ => rel_eq (H.sl h.1).1 (H.sl h.2.1).1 (near_bd h.2.2.1 h.2.2.2).1) fun _ => rfl
theorem BR.ok {f : FQ} (h : BR f) (p : 0 < f.2.toInt) : OkQ f := by
  obtain ⟨⟨a, b⟩, c, d⟩ := h
  exact ⟨⟨a, by omega⟩, p, by omega⟩
theorem gap_ok (H : StR M σ ρ) {a b x y : Int32} (ha : Slt a) (hb : Slt b) (hx : Nea x) (hy : Nea y) (n : ¬ REm ρ a b) : OkQ (lgP (slR ρ a) (slR ρ b) x y) ∧ ∀ p, partF (gapP (slM M σ (nx a)) (slM M σ (nx b)) x y) p = rPart (lgP (slR ρ a) (slR ρ b) x y) p := by
  have n' : ¬ Em2 M σ a b := fun q => n ((H.em ha hb).mp q)
  obtain ⟨⟨b1, b2⟩, ⟨p1, p2⟩, e⟩ := gap_shape (H.sl ha).1 (H.sl hb).1 (fun q => n' (Or.inl q)) (fun q => n' (Or.inr q)) (near_bd hx hy).1
  exact ⟨b2.ok p2, fun p => part_same (b1.ok p1) (b2.ok p2) e p⟩
theorem q_gap (H : StR M σ ρ) (a b x y p : Int32) : cGap M σ a b x y p = rGap ρ a b x y p := ifC_cong ⟨fun h => ⟨⟨h.1, h.2.1⟩, ⟨h.2.2.1, h.2.2.2.1⟩, h.2.2.2.2⟩, fun h => ⟨h.1.1, h.1.2, h.2.1.1, h.2.1.2, h.2.2⟩⟩ (fun h => ifC_cong (H.em h.1 h.2.1) (fun _ => rfl) fun n => (gap_ok H h.1 h.2.1 h.2.2.1 h.2.2.2.1 fun q => n ((H.em h.1 h.2.1).mpr q)).2 p) fun _ => rfl
theorem slide_ok (H : StR M σ ρ) {a b x y d : Int32} (ha : Slt a) (hb : Slt b) (hx : Nea x) (hy : Nea y) (hd : Dirn d) (nl : ¬ liePR (slR ρ a) (slR ρ b) x y = 2) (ps : 0 < (stP (slR ρ a) (slR ρ b) x y (dxR d) (dyR d) 0).2) : OkQ (stP (slR ρ a) (slR ρ b) x y (dxR d) (dyR d) 0) ∧ ∀ p, partF (stpP (slM M σ (nx a)) (slM M σ (nx b)) x y (dirxF (nx d)) (diryF (nx d))) p = rPart (stP (slR ρ a) (slR ρ b) x y (dxR d) (dyR d) 0) p := by
  have N := near_bd hx hy
  have D := dir_eq hd
  rw [D.1, D.2.1]
  obtain ⟨⟨b1, b2⟩, ⟨p1, p2⟩, e⟩ := slide_eq (H.sl ha).1 (H.sl hb).1 N.2.1 D.2.2.1 (by rw [rel_eq (H.sl ha).1 (H.sl hb).1 N.1]; exact nl) ((stb_eq (H.sl ha).1 (H.sl hb).1 N.2.1 D.2.2.1).mpr ps)
  exact ⟨b2.ok p2, fun p => part_same (b1.ok p1) (b2.ok p2) e p⟩
theorem q_slide (H : StR M σ ρ) (a b x y d p : Int32) : cSlide M σ a b x y d p = rSlide ρ a b x y d p := ifC_cong ⟨fun h => ⟨h.1, ⟨h.2.1, h.2.2.1⟩, h.2.2.2⟩, fun h => ⟨h.1, h.2.1.1, h.2.1.2, h.2.2⟩⟩ (fun h => ifC_cong (H.em h.1.1 h.1.2) (fun _ => rfl) fun n => by
  have N := near_bd h.2.1 h.2.2.1
  have D := dir_eq h.2.2.2.1
  have r := rel_eq (H.sl h.1.1).1 (H.sl h.1.2).1 N.1
  have s := stb_eq (H.sl h.1.1).1 (H.sl h.1.2).1 N.2.1 D.2.2.1
  rw [r]
  by_cases c1 : liePR (slR ρ a) (slR ρ b) x y = 2
  · rw [if_pos c1, if_pos c1]
  · rw [if_neg c1, if_neg c1]
    by_cases c2 : 0 < (stP (slR ρ a) (slR ρ b) x y (dxR d) (dyR d) 0).2
    · rw [if_pos c2, if_pos (by rw [D.1, D.2.1]; exact s.mpr c2)]
      exact (slide_ok H h.1.1 h.1.2 h.2.1 h.2.2.1 h.2.2.2.1 c1 c2).2 p
    · rw [if_neg c2, if_neg (by rw [D.1, D.2.1]; exact fun q => c2 (s.mp q))]) fun _ => rfl
end QU
