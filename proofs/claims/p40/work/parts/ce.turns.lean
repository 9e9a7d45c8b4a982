/-! points of pieces, turns, the two orders of a pair -/
section TU
variable {A A' B B' : List PT} {S S' S2 S2' : SH} {x y r : Int32}
theorem vR_map {f : PT → PT} {V : List PT} (h : 0 < V.length) (k : Nat) : vR (V.map f) k = f (vR V k) := by
  unfold vR
  rw [List.length_map, getD_mapq (d := (0, 0)) (Nat.mod_lt _ h)]
def rtZ (w : Z2) : Z2 := (-w.2, w.1)
theorem qt_b9 {v : PT} (h : B9 v) : B9 (qt v) ∧ zP (qt v) = rtZ (zP v) := by
  obtain ⟨a, b, c, d⟩ := h
  have e := i32_subE (x := 0) (y := v.2) (by decide) (by decide) (by omega) (by omega)
  rw [Int32.zero_sub] at e
  have e : (-v.2).toInt = -v.2.toInt := by rw [e]; show 0 - v.2.toInt = _; omega
  unfold qt B9 zP rtZ
  dsimp only
  rw [e]
  exact ⟨⟨by omega, by omega, by omega, by omega⟩, rfl⟩
theorem RP.qtr (H : RP A) : RP (A.map qt) := by
  have hl := H.2.1
  have z : ∀ k, zR (A.map qt) k = rtZ (zR A k) := fun k => by
    unfold zR
    rw [vR_map (by omega)]
    exact (qt_b9 (H.1.get _)).2
  have sm : SmV (A.map qt) := fun v hv => by
    obtain ⟨u, hu, rfl⟩ := List.mem_map.mp hv
    exact (qt_b9 (H.1 u hu)).1
  have C := piece_cvx H.1 hl.1 H.2.2
  refine ⟨sm, by rw [List.length_map]; exact hl, fun e he v h1 h2 => ?_⟩
  refine (lt_i32 (vR_bd sm e) (vR_bd sm (e + 1)) (vR_bd sm v) (vR_bd sm e)).mpr ?_
  rw [List.length_map] at h2
  have c := C.2.2 e v h1 h2
  show 0 < cr (zs (zR (A.map qt) (e + 1)) (zR (A.map qt) e)) (zs (zR (A.map qt) v) (zR (A.map qt) e))
  rw [z, z, z]
  have : cr (zs (rtZ (zR A (e + 1))) (rtZ (zR A e))) (zs (rtZ (zR A v)) (rtZ (zR A e))) = cr (ed (zR A) e) (zs (zR A v) (zR A e)) := by
    unfold cr zs rtZ ed zs; grind
  omega
theorem CP.qtr (H : CP A A') : CP (A.map qt) (A'.map qt) := by
  have hl := H.len
  obtain ⟨⟨e, s, hs⟩, R⟩ := H
  refine ⟨⟨by rw [List.length_map, List.length_map, e], s, fun k => ?_⟩, R.qtr⟩
  rw [vR_map (by omega), vR_map (by omega), hs]
theorem qtS_get {S : SH} {i : Nat} (h : i < S.length) : (qtS S).getD i [] = (S.getD i []).map qt := by
  unfold qtS
  rw [getD_mapq (d := []) h]
theorem SR.qtr (H : SR S S') : SR (qtS S) (qtS S') := by
  refine ⟨by unfold qtS; rw [List.length_map, List.length_map, H.1], fun i hi => ?_⟩
  have hi : i < S.length := by unfold qtS at hi; rw [List.length_map] at hi; exact hi
  rw [qtS_get hi, qtS_get (by rw [← H.1]; exact hi)]
  exact (H.2 i hi).qtr
theorem SR.qtNr (H : SR S S') : ∀ n, SR (qtN n S) (qtN n S') := fun n => by
  induction n with
  | zero => exact H
  | succ n ih => exact ih.qtr
theorem qtN_len : ∀ n (S : SH), (qtN n S).length = S.length := fun n => by
  induction n with
  | zero => intro S; rfl
  | succ n ih =>
    intro S
    show (qtS (qtN n S)).length = _
    unfold qtS
    rw [List.length_map, ih]
theorem tr_qt (v : PT) : trP 1 v = qt v ∧ trP 2 v = qt (qt v) ∧ trP 3 v = qt (qt (qt v)) := by
  have e1 : (1 : Int32).toInt = 1 := by decide
  have e2 : (2 : Int32).toInt = 2 := by decide
  have e3 : (3 : Int32).toInt = 3 := by decide
  unfold trP trX qt
  rw [e1, e2, e3]
  simp
theorem tnS_qt {t : Nat} (h : t < 4) (S : SH) : tnS (Int32.ofNat t) S = qtN t S := by
  have m : ∀ (f g : PT → PT), (∀ v, f v = g v) → S.map (fun P => P.map f) = S.map (fun P => P.map g) := fun f g h => by rw [show f = g from funext h]
  have : t = 0 ∨ t = 1 ∨ t = 2 ∨ t = 3 := by omega
  unfold tnS
  rcases this with rfl | rfl | rfl | rfl
  · show S.map (fun P => P.map (trP 0)) = S
    rw [show (fun P : List PT => P.map (trP 0)) = id from funext fun P => tr0, List.map_id]
  · show S.map (fun P => P.map (trP 1)) = qtS S
    rw [m (trP 1) qt fun v => (tr_qt v).1]; rfl
  · show S.map (fun P => P.map (trP 2)) = qtS (qtS S)
    rw [m (trP 2) (fun v => qt (qt v)) fun v => (tr_qt v).2.1]
    unfold qtS
    rw [List.map_map]
    congr 1
    funext P
    show _ = (P.map qt).map qt
    rw [List.map_map]; rfl
  · show S.map (fun P => P.map (trP 3)) = qtS (qtS (qtS S))
    rw [m (trP 3) (fun v => qt (qt (qt v))) fun v => (tr_qt v).2.2]
    unfold qtS
    rw [List.map_map, List.map_map]
    congr 1
    funext P
    show _ = ((P.map qt).map qt).map qt
    rw [List.map_map, List.map_map]; rfl
/-! the two orders of a pair -/
theorem cN_neg (A B : List PT) (HA : RP A) (HB : RP B) {c : Z2} (h : NR A B c) : NR B A (zs (0, 0) c) := by
  have a0 := HA.2.1
  have b0 := HB.2.1
  obtain ⟨q, hq, rfl⟩ := h
  by_cases c1 : q < 4
  · rw [cN_axis A B c1]
    have : q = 0 ∨ q = 1 ∨ q = 2 ∨ q = 3 := by omega
    rcases this with rfl | rfl | rfl | rfl
    · exact NR.ax B A (q := 2) (by omega)
    · exact NR.ax B A (q := 3) (by omega)
    · exact NR.ax B A (q := 0) (by omega)
    · exact NR.ax B A (q := 1) (by omega)
  · by_cases c2 : q < 4 + A.length
    · rw [cN_a HA.1 (by omega) c2]
      refine ⟨4 + B.length + (q - 4), by omega, ?_⟩
      rw [cN_b HA.1 (by omega), show 4 + B.length + (q - 4) - 4 - B.length = q - 4 by omega]
    · rw [cN_b HB.1 (by omega)]
      refine ⟨q - A.length, by omega, ?_⟩
      rw [cN_a HB.1 (by omega) (by omega), show q - A.length - 4 = q - 4 - A.length by omega]
      unfold zs; apply Prod.ext <;> dsimp only <;> omega
theorem TR_neg {A B : List PT} {r : Int} {t : Z2} (h : TR A B r t) : TR B A r (zs (0, 0) t) := by
  obtain ⟨v, u, s, ⟨h1, h2⟩, rfl⟩ := h
  refine ⟨u, v, zs (0, 0) s, ⟨by unfold zs; dsimp only; omega, by unfold zs; dsimp only; omega⟩, ?_⟩
  unfold za zs
  apply Prod.ext <;> dsimp only <;> omega
theorem cr_nn (c t : Z2) : cr (zs (0, 0) c) (zs (0, 0) t) = cr c t := by unfold cr zs; grind
theorem nn_nn (c : Z2) : zs (0, 0) (zs (0, 0) c) = c := by unfold zs; apply Prod.ext <;> dsimp only <;> omega
theorem ins_sym1 (HA : RP A) (HB : RP B) (r0 : 0 ≤ r.toInt) (r5 : r.toInt ≤ 5) (hp : Bd (x, y)) : (insP A B x y r 0 = true → insP B A (-x) (-y) r 0 = true) ∧ (insP A B x y r 1 = true → insP B A (-x) (-y) r 1 = true) := by
  have a0 := HA.2.1
  have b0 := HB.2.1
  obtain ⟨hp', ez⟩ := bd_neg hp
  obtain ⟨i1, i2⟩ := ins_spec (r := r) HA.1 HB.1 (by omega) (by omega) r0 r5 hp
  obtain ⟨j1, j2⟩ := ins_spec (r := r) HB.1 HA.1 (by omega) (by omega) r0 r5 hp'
  rw [i1, i2, j1, j2, ez]
  refine ⟨fun h c hc => ?_, fun h c hc => ?_⟩
  · obtain ⟨t, t1, t2⟩ := h _ (cN_neg B A HB HA hc)
    refine ⟨_, TR_neg t1, ?_⟩
    rw [← cr_nn c, nn_nn, ← cr_nn c, nn_nn]; exact t2
  · obtain ⟨t, t1, t2⟩ := h _ (cN_neg B A HB HA hc)
    refine ⟨_, TR_neg t1, ?_⟩
    rw [← cr_nn c, nn_nn, ← cr_nn c, nn_nn]; exact t2
theorem any_sym1 (hA : ∀ i, i < S.length → RP (S.getD i [])) (hB : ∀ i, i < S2.length → RP (S2.getD i [])) (r0 : 0 ≤ r.toInt) (r5 : r.toInt ≤ 5) (hp : Bd (x, y)) : (anyP S S2 x y r 0 = true → anyP S2 S (-x) (-y) r 0 = true) ∧ (anyP S S2 x y r 1 = true → anyP S2 S (-x) (-y) r 1 = true) := by
  unfold anyP
  rw [List.any_eq_true, List.any_eq_true, List.any_eq_true, List.any_eq_true]
  refine ⟨fun ⟨ij, h1, h2⟩ => ?_, fun ⟨ij, h1, h2⟩ => ?_⟩
  · have m := mem_pre.mp h1
    exact ⟨(ij.2, ij.1), mem_pre.mpr ⟨m.2, m.1⟩, (ins_sym1 (hA _ m.1) (hB _ m.2) r0 r5 hp).1 h2⟩
  · have m := mem_pre.mp h1
    exact ⟨(ij.2, ij.1), mem_pre.mpr ⟨m.2, m.1⟩, (ins_sym1 (hA _ m.1) (hB _ m.2) r0 r5 hp).2 h2⟩
theorem any_sym (hA : ∀ i, i < S.length → RP (S.getD i [])) (hB : ∀ i, i < S2.length → RP (S2.getD i [])) (r0 : 0 ≤ r.toInt) (r5 : r.toInt ≤ 5) (hp : Bd (x, y)) : anyP S S2 x y r 0 = anyP S2 S (-x) (-y) r 0 ∧ anyP S S2 x y r 1 = anyP S2 S (-x) (-y) r 1 := by
  obtain ⟨a, b⟩ := any_sym1 hA hB r0 r5 hp
  obtain ⟨c, d⟩ := any_sym1 hB hA r0 r5 (bd_neg hp).1
  rw [Int32.neg_neg, Int32.neg_neg] at c d
  exact ⟨Bool.eq_iff_iff.mpr ⟨a, c⟩, Bool.eq_iff_iff.mpr ⟨b, d⟩⟩
end TU
