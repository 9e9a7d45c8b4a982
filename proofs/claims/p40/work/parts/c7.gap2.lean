/-! the gap: the reference's candidates, and the gap of two shapes -/
section NS
variable {A B A' B' A0 B0 : List PT} {x y : Int32}
theorem ns_step {C : Int → Int → Prop} {f : FQ} (hA : SmV A) (hB : RP B) (hp : Bd (x, y)) (M : MnP BR C f) (v e : Nat) : MnP BR (fun N D => C N D ∨ Rc (zP (x, y)) (zs (zR A v) (zR B e)) (zs (0, 0) (ed (zR B) e)) N D) (nsStep A B x y f (v, e)) := by
  have w0 := (par_self ((piece_cvx hB.1 hB.2.1.1 hB.2.2).ed_ne e)).2
  have a0 : B9 (vR A v) := hA.get _
  have b0 : B9 (vR B e) := hB.1.get _
  have b1 : B9 (vR B (e + 1)) := hB.1.get _
  obtain ⟨a1, a2, a3, a4⟩ := a0
  obtain ⟨q1, q2, q3, q4⟩ := b0
  obtain ⟨r1, r2, r3, r4⟩ := b1
  obtain ⟨p1, p2, p3, p4⟩ := hp
  dsimp only at p1 p2 p3 p4
  have dx := i32_subE (x := (vR B (e + 1)).1) (y := (vR B e).1) (by omega) (by omega) (by omega) (by omega)
  have dy := i32_subE (x := (vR B (e + 1)).2) (y := (vR B e).2) (by omega) (by omega) (by omega) (by omega)
  have s1 := i32_subE (x := (vR A v).1) (y := (vR B e).1) (by omega) (by omega) (by omega) (by omega)
  have s2 := i32_subE (x := (vR A v).2) (y := (vR B e).2) (by omega) (by omega) (by omega) (by omega)
  have px := i32_subE (x := (vR A v).1 - (vR B e).1) (y := x) (by omega) (by omega) (by omega) (by omega)
  have py := i32_subE (x := (vR A v).2 - (vR B e).2) (y := y) (by omega) (by omega) (by omega) (by omega)
  rw [s1] at px
  rw [s2] at py
  rw [← i64_w] at dx dy px py
  show MnP BR _ (nsQ f ((vR B (e + 1)).1 - (vR B e).1).toInt64 ((vR B (e + 1)).2 - (vR B e).2).toInt64 ((vR A v).1 - (vR B e).1 - x).toInt64 ((vR A v).2 - (vR B e).2 - y).toInt64)
  generalize ((vR B (e + 1)).1 - (vR B e).1).toInt64 = DX at *
  generalize ((vR B (e + 1)).2 - (vR B e).2).toInt64 = DY at *
  generalize ((vR A v).1 - (vR B e).1 - x).toInt64 = PX at *
  generalize ((vR A v).2 - (vR B e).2 - y).toInt64 = PY at *
  obtain ⟨⟨al, -⟩, alb1, alb2⟩ := i64_dot (a := PX) (b := DX) (c := PY) (d := DY) (by omega) (by omega) (by omega) (by omega)
  obtain ⟨⟨sq, -⟩, sqb1, sqb2⟩ := i64_dot (a := DX) (b := DX) (c := DY) (d := DY) (by omega) (by omega) (by omega) (by omega)
  obtain ⟨⟨tt, -⟩, ttb1, ttb2⟩ := i64_dot (a := PX) (b := PX) (c := PY) (d := PY) (by omega) (by omega) (by omega) (by omega)
  obtain ⟨⟨-, of⟩, ofb1, ofb2⟩ := i64_dot (a := PX) (b := DY) (c := PY) (d := DX) (by omega) (by omega) (by omega) (by omega)
  obtain ⟨u, hu⟩ : ∃ u, u = zs (zs (zR A v) (zR B e)) (zP (x, y)) := ⟨_, rfl⟩
  obtain ⟨w, hw⟩ : ∃ w, w = zs (0, 0) (ed (zR B) e) := ⟨_, rfl⟩
  have hu1 : u.1 = PX.toInt := by rw [hu, px]; rfl
  have hu2 : u.2 = PY.toInt := by rw [hu, py]; rfl
  have hw1 : w.1 = -DX.toInt := by
    rw [hw, dx]
    show 0 - ((vR B (e + 1)).1.toInt - (vR B e).1.toInt) = _; omega
  have hw2 : w.2 = -DY.toInt := by
    rw [hw, dy]
    show 0 - ((vR B (e + 1)).2.toInt - (vR B e).2.toInt) = _; omega
  have eal : -dt u w = (PX * DX + PY * DY).toInt := by rw [al]; unfold dt; rw [hu1, hu2, hw1, hw2]; grind
  have esq : dt w w = (DX * DX + DY * DY).toInt := by rw [sq]; unfold dt; rw [hw1, hw2]; grind
  have ett : dt u u = (PX * PX + PY * PY).toInt := by rw [tt]; unfold dt; rw [hu1, hu2]
  have eof : cr u w * cr u w = (PX * DY - PY * DX).toInt * (PX * DY - PY * DX).toInt := by rw [of]; unfold cr; rw [hu1, hu2, hw1, hw2]; grind
  have w0' : 0 < dt w w := by
    have : dt w w = dt (ed (zR B) e) (ed (zR B) e) := by rw [hw]; unfold dt zs; grind
    omega
  have u0 := dt_sq_nonneg u
  have ofb : -16000 ≤ (PX * DY - PY * DX).toInt ∧ (PX * DY - PY * DX).toInt ≤ 16000 := by
    have m1 := mul_bd (a := PX.toInt) (b := DY.toInt) (A := 218) (B := 36) (by omega) (by omega) (by omega) (by omega)
    have m2 := mul_bd (a := PY.toInt) (b := DX.toInt) (A := 218) (B := 36) (by omega) (by omega) (by omega) (by omega)
    omega
  have oo := i64_mulE (x := PX * DY - PY * DX) (y := PX * DY - PY * DX) ⟨by omega, by omega⟩ ⟨by omega, by omega⟩
  have oob := mul_bd (a := (PX * DY - PY * DX).toInt) (b := (PX * DY - PY * DX).toInt) (A := 16000) (B := 16000) (by omega) (by omega) (by omega) (by omega)
  have oo0 : 0 ≤ (PX * DY - PY * DX).toInt * (PX * DY - PY * DX).toInt := by
    rcases Int.le_total 0 (PX * DY - PY * DX).toInt with h | h
    · exact Int.mul_nonneg h h
    · exact Int.mul_nonneg_of_nonpos_of_nonpos h h
  have one : (1 : Int64).toInt = 1 := by decide
  unfold nsQ Rc
  rw [← hu, ← hw, eal, esq, ett, eof]
  by_cases c : 0 < PX * DX + PY * DY ∧ PX * DX + PY * DY < DX * DX + DY * DY
  · rw [if_pos c]
    rw [i64_lt, i64_lt, i64_z] at c
    refine (near_step M (n := (PX * DY - PY * DX) * (PX * DY - PY * DX)) (d := DX * DX + DY * DY) (by rw [oo]; omega) (by omega)).congr fun N D => ?_
    rw [oo]
    constructor
    · rintro (h | h)
      · exact Or.inl h
      · exact Or.inr (Or.inl ⟨c.1, c.2, h.1, h.2⟩)
    · rintro (h | h | h)
      · exact Or.inl h
      · exact Or.inr h.2.2
      · exact absurd c h.1
  · rw [if_neg c]
    rw [i64_lt, i64_lt, i64_z] at c
    refine (near_step M (n := PX * PX + PY * PY) (d := 1) (by omega) (by rw [one]; omega)).congr fun N D => ?_
    rw [one]
    constructor
    · rintro (h | h)
      · exact Or.inl h
      · exact Or.inr (Or.inr ⟨c, h⟩)
    · rintro (h | h | h)
      · exact Or.inl h
      · exact absurd ⟨h.1, h.2.1⟩ c
      · exact Or.inr h.2
theorem mem_pre {k n : Nat} {ij : Nat × Nat} : ij ∈ pre k n 0 ↔ ij.1 < n ∧ ij.2 < k := by
  refine ⟨pre_mem, fun h => ?_⟩
  obtain ⟨r, e⟩ := pre_pre h.1 h.2
  rw [e]
  exact List.mem_append_right _ (List.mem_cons_self ..)
theorem bd_neg (hp : Bd (x, y)) : Bd (-x, -y) ∧ zP (-x, -y) = zs (0, 0) (zP (x, y)) := by
  obtain ⟨a, b, c, d⟩ := hp
  dsimp only at a b c d
  have e1 := i32_subE (x := 0) (y := x) (by decide) (by decide) (by omega) (by omega)
  have e2 := i32_subE (x := 0) (y := y) (by decide) (by decide) (by omega) (by omega)
  rw [Int32.zero_sub] at e1 e2
  have z : (0 : Int32).toInt = 0 := by decide
  refine ⟨⟨by dsimp only; omega, by dsimp only; omega, by dsimp only; omega, by dsimp only; omega⟩, ?_⟩
  unfold zP zs
  dsimp only
  rw [e1, e2, z]
theorem Rc.neg {p t w : Z2} {N D : Int} : Rc (zs (0, 0) p) (zs (0, 0) t) (zs (0, 0) w) N D ↔ Rc p t w N D := by
  have e1 : dt (zs (zs (0, 0) t) (zs (0, 0) p)) (zs (0, 0) w) = dt (zs t p) w := by unfold dt zs; grind
  have e2 : cr (zs (zs (0, 0) t) (zs (0, 0) p)) (zs (0, 0) w) = cr (zs t p) w := by unfold cr zs; grind
  have e3 : dt (zs (0, 0) w) (zs (0, 0) w) = dt w w := by unfold dt zs; grind
  have e4 : dt (zs (zs (0, 0) t) (zs (0, 0) p)) (zs (zs (0, 0) t) (zs (0, 0) p)) = dt (zs t p) (zs t p) := by unfold dt zs; grind
  unfold Rc
  rw [e1, e2, e3, e4]
/-- the reference's candidates at one pair -/
def RcR (A B : List PT) (p : Z2) (N D : Int) : Prop := (∃ v e, v < A.length ∧ e < B.length ∧ Rc p (zs (zR A v) (zR B e)) (zs (0, 0) (ed (zR B) e)) N D) ∨ ∃ v e, v < B.length ∧ e < A.length ∧ Rc p (zs (zR A e) (zR B v)) (ed (zR A) e) N D
theorem ns_pair {C : Int → Int → Prop} {f : FQ} (hA : RP A) (hB : RP B) (hp : Bd (x, y)) (M : MnP BR C f) : MnP BR (fun N D => C N D ∨ RcR A B (zP (x, y)) N D) (nsP B A (-x) (-y) (nsP A B x y f)) := by
  have m1 := mn_fold (P := BR) (step := nsStep A B x y) (Cd := fun ve N D => Rc (zP (x, y)) (zs (zR A ve.1) (zR B ve.2)) (zs (0, 0) (ed (zR B) ve.2)) N D) (pre B.length A.length 0) f C (fun ve _ f C M => ns_step hA.1 hB hp M ve.1 ve.2) M
  obtain ⟨hp', ez⟩ := bd_neg hp
  have m2 := mn_fold (P := BR) (step := nsStep B A (-x) (-y)) (Cd := fun ve N D => Rc (zP (-x, -y)) (zs (zR B ve.1) (zR A ve.2)) (zs (0, 0) (ed (zR A) ve.2)) N D) (pre A.length B.length 0) _ _ (fun ve _ f C M => ns_step hB.1 hA hp' M ve.1 ve.2) m1
  refine m2.congr fun N D => ?_
  have sw : ∀ v e, Rc (zP (-x, -y)) (zs (zR B v) (zR A e)) (zs (0, 0) (ed (zR A) e)) N D ↔ Rc (zP (x, y)) (zs (zR A e) (zR B v)) (ed (zR A) e) N D := fun v e => by
    rw [ez, show zs (zR B v) (zR A e) = zs (0, 0) (zs (zR A e) (zR B v)) from (zs_neg _ _).symm, Rc.neg]
  unfold RcR
  constructor
  · rintro ((h | ⟨ve, h1, h2⟩) | ⟨ve, h1, h2⟩)
    · exact Or.inl h
    · have := mem_pre.mp h1
      exact Or.inr (Or.inl ⟨_, _, this.1, this.2, h2⟩)
    · have := mem_pre.mp h1
      exact Or.inr (Or.inr ⟨_, _, this.1, this.2, (sw _ _).mp h2⟩)
  · rintro (h | ⟨v, e, h1, h2, h3⟩ | ⟨v, e, h1, h2, h3⟩)
    · exact Or.inl (Or.inl h)
    · exact Or.inl (Or.inr ⟨(v, e), mem_pre.mpr ⟨h1, h2⟩, h3⟩)
    · exact Or.inr ⟨(v, e), mem_pre.mpr ⟨h1, h2⟩, (sw _ _).mpr h3⟩
theorem za_neg (a b : Z2) : za a (zs (0, 0) b) = zs a b := by unfold za zs; apply Prod.ext <;> dsimp only <;> omega
theorem zR_mod {V : List PT} (k : Nat) : zR V (k % V.length) = zR V k := by unfold zR; rw [vR_congr (Nat.mod_mod ..)]
/-- at a pair that lies apart the least values agree -/
theorem pair_near (HA : CP A A') (HB : CP B B') {p : Z2} : (∀ N D, (∃ k, Cc (zL (nfQ A B)) p k N D) → ∃ N' D', RcR A' B' p N' D' ∧ N' * D ≤ N * D') ∧ ((¬ ∀ k, 0 ≤ sdE (zL (nfQ A B)) p k) → ∀ N' D', RcR A' B' p N' D' → ∃ N D, (∃ k, Cc (zL (nfQ A B)) p k N D) ∧ N * D' ≤ N' * D) := by
  obtain ⟨PV, M, H, D⟩ := nf_all HA HB
  obtain ⟨PA, sA, eA⟩ := HA.pg
  obtain ⟨PB, sB, eB⟩ := HB.ngt
  have hA := HA.len
  have hB := HB.len
  have edA : ∀ k, ed (zL A) k = ed (zR A') (sA + k) := fun k => by
    unfold ed; rw [eA, eA, Nat.add_assoc]
  have edB : ∀ k, ed (zL (B.map (trP 2))) k = zs (0, 0) (ed (zR B') (sB + k)) := fun k => by
    rw [← ed_neg]
    unfold ed; rw [eB, eB, Nat.add_assoc]
  have mA : ∀ k, (sA + k) % A'.length < A'.length := fun k => Nat.mod_lt _ (by omega)
  have mB : ∀ k, (sB + k) % B'.length < B'.length := fun k => Nat.mod_lt _ (by omega)
  constructor
  · rintro N D ⟨k, hc⟩
    obtain ⟨N', D', ⟨i, j, w, hw, R⟩, d0, le⟩ := near_reach M (fun i => PA.2.2.1.ed_ne i) (fun j => PB.2.2.1.ed_ne j) hc
    refine ⟨N', D', ?_, le⟩
    rw [eA, eB, za_neg] at R
    rcases hw with rfl | rfl
    · rw [edA] at R
      refine Or.inr ⟨(sB + j) % B'.length, (sA + i) % A'.length, mB j, mA i, ?_⟩
      rw [zR_mod, zR_mod, ed_zR_mod]; exact R
    · rw [edB] at R
      refine Or.inl ⟨(sA + i) % A'.length, (sB + j) % B'.length, mA i, mB j, ?_⟩
      rw [zR_mod, zR_mod, ed_zR_mod]; exact R
  · intro out N' D' R
    obtain ⟨k, hk⟩ : ∃ k, sdE (zL (nfQ A B)) p k < 0 := by
      by_cases c : ∃ k, sdE (zL (nfQ A B)) p k < 0
      · exact c
      · exact absurd (fun k => by
          by_cases q : sdE (zL (nfQ A B)) p k < 0
          · exact absurd ⟨k, q⟩ c
          · omega) out
    obtain ⟨j, N, D, hc, d0, S⟩ := near_sep H hk
    refine ⟨N, D, ⟨j, hc⟩, ?_⟩
    have tin : ∀ v u, TR A' B' 0 (zs (zR A' v) (zR B' u)) := fun v u => ⟨v, u, (0, 0), ⟨Or.inl rfl, Or.inl rfl⟩, by unfold za zs; apply Prod.ext <;> dsimp only <;> omega⟩
    rcases R with ⟨v, e, -, -, R⟩ | ⟨v, e, -, -, R⟩
    · refine sep_le S d0 (tin v e) ?_ R
      have : za (zs (zR A' v) (zR B' e)) (zs (0, 0) (ed (zR B') e)) = zs (zR A' v) (zR B' (e + 1)) := by unfold ed za zs; apply Prod.ext <;> dsimp only <;> omega
      rw [this]; exact tin v (e + 1)
    · refine sep_le S d0 (tin e v) ?_ R
      have : za (zs (zR A' e) (zR B' v)) (ed (zR A') e) = zs (zR A' (e + 1)) (zR B' v) := by unfold ed za zs; apply Prod.ext <;> dsimp only <;> omega
      rw [this]; exact tin (e + 1) v
end NS
/-- the class's shape and the reference's -/
def SR (S S' : SH) : Prop := S.length = S'.length ∧ ∀ i, i < S.length → CP (S.getD i []) (S'.getD i [])
section GS
variable {S S' S2 S2' : SH} {x y : Int32}
theorem gap_shape (H : SR S S') (H2 : SR S2 S2') (n1 : S ≠ []) (n2 : S2 ≠ []) (hp : Bd (x, y)) : (BR (gapP S S2 x y) ∧ BR (lgP S' S2' x y)) ∧ (0 < (gapP S S2 x y).2.toInt ∧ 0 < (lgP S' S2' x y).2.toInt) ∧ (gapP S S2 x y).1.toInt * (lgP S' S2' x y).2.toInt = (lgP S' S2' x y).1.toInt * (gapP S S2 x y).2.toInt := by
  have l1 : 0 < S.length := List.length_pos_iff.mpr n1
  have l2 : 0 < S2.length := List.length_pos_iff.mpr n2
  have cls : MnP BF (fun N D => False ∨ ∃ ij, ij ∈ pre S2.length S.length 0 ∧ CcP (nfP S S2 ij) x y N D) (gapP S S2 x y) := by
    refine mn_fold (P := BF) (step := fun f ij => gapV (nfP S S2 ij) x y f) (pre S2.length S.length 0) _ _ (fun ij hij f C M => ?_) ⟨⟨⟨by decide, by decide⟩, by decide⟩, fun _ _ h => h.elim, Or.inl ⟨rfl, fun _ _ h => h⟩⟩
    have m := pre_mem hij
    exact gap_V (nf_all (H.2 _ m.1) (H2.2 _ m.2)).1 hp M
  have loc : ∀ ij, ij ∈ pre S2.length S.length 0 → (locP (nfP S S2 ij) x y ≠ 0 ↔ anyQ S' S2' x y 0 1 ij = true) := fun ij hij => by
    have m := pre_mem hij
    exact (nf_loc (H.2 _ m.1) (H2.2 _ m.2) hp).2
  obtain ⟨⟨cB, -⟩, cM⟩ := cls
  unfold lgP
  by_cases c : anyP S' S2' x y 0 1 = true
  · rw [if_pos c]
    unfold anyP at c
    rw [List.any_eq_true, ← H.1, ← H2.1] at c
    obtain ⟨ij, hij, q⟩ := c
    have cand : CcP (nfP S S2 ij) x y 0 1 := Or.inr ⟨(loc ij hij).mpr q, rfl, rfl⟩
    rcases cM.2 with ⟨-, no⟩ | ⟨p0, -, mn⟩
    · exact absurd (Or.inr ⟨ij, hij, cand⟩) (no 0 1)
    · have m := mn 0 1 (Or.inr ⟨ij, hij, cand⟩)
      have e1 : (zF (gapP S S2 x y)).1 = (gapP S S2 x y).1.toInt := rfl
      have e2 : (zF (gapP S S2 x y)).2 = (gapP S S2 x y).2.toInt := rfl
      rw [e1] at m
      rw [e2] at p0
      have z1 : ((0, 1) : FQ).2.toInt = 1 := by decide
      have z2 : ((0, 1) : FQ).1.toInt = 0 := by decide
      refine ⟨⟨cB, by decide, by decide⟩, ⟨p0, by rw [z1]; decide⟩, ?_⟩
      rw [z1, z2]
      have := cB.1.1
      omega
  · rw [if_neg c]
    have ref : MnP BR (fun N D => False ∨ ∃ ij, ij ∈ pre S2'.length S'.length 0 ∧ RcR (S'.getD ij.1 []) (S2'.getD ij.2 []) (zP (x, y)) N D) ((pre S2'.length S'.length 0).foldl (lgStep S' S2' x y) (0, 0)) := by
      refine mn_fold (P := BR) (step := lgStep S' S2' x y) (pre S2'.length S'.length 0) _ _ (fun ij hij f C M => ?_) ⟨⟨by decide, by decide⟩, fun _ _ h => h.elim, Or.inl ⟨rfl, fun _ _ h => h⟩⟩
      have m := pre_mem hij
      rw [← H.1, ← H2.1] at m
      exact ns_pair (H.2 _ m.1).2 (H2.2 _ m.2).2 hp M
    obtain ⟨rB, rM⟩ := ref
    have apart : ∀ ij, ij ∈ pre S2.length S.length 0 → locP (nfP S S2 ij) x y = 0 := fun ij hij => by
      by_cases q : locP (nfP S S2 ij) x y = 0
      · exact q
      · refine absurd ?_ c
        unfold anyP
        rw [List.any_eq_true, ← H.1, ← H2.1]
        exact ⟨ij, hij, (loc ij hij).mp q⟩
    rw [← H.1, ← H2.1] at rM rB ⊢
    have same := Mn.same cM rM (fun N D h => ?_) (fun N' D' h => ?_) ?_
    · exact ⟨⟨cB, rB⟩, ⟨same.1, same.2.1⟩, same.2.2⟩
    · rcases h with h | ⟨ij, hij, h⟩
      · exact h.elim
      · have m := pre_mem hij
        rcases h with ⟨-, k, h⟩ | h
        · obtain ⟨N', D', R, le⟩ := (pair_near (H.2 _ m.1) (H2.2 _ m.2)).1 N D ⟨k, h⟩
          exact ⟨N', D', Or.inr ⟨ij, hij, R⟩, le⟩
        · exact absurd (apart ij hij) h.1
    · rcases h with h | ⟨ij, hij, h⟩
      · exact h.elim
      · have m := pre_mem hij
        have PV := (nf_all (H.2 _ m.1) (H2.2 _ m.2)).1
        have out : ¬ ∀ k, 0 ≤ sdE (zL (nfQ (S.getD ij.1 []) (S2.getD ij.2 []))) (zP (x, y)) k := fun q => (loc_spec PV hp).2.1.mpr q (apart ij hij)
        obtain ⟨N, D, ⟨k, h'⟩, le⟩ := (pair_near (H.2 _ m.1) (H2.2 _ m.2)).2 out N' D' h
        exact ⟨N, D, Or.inr ⟨ij, hij, Or.inl ⟨apart ij hij, k, h'⟩⟩, le⟩
    · have h0 : (0, 0) ∈ pre S2.length S.length 0 := mem_pre.mpr ⟨l1, l2⟩
      exact ⟨_, _, Or.inr ⟨(0, 0), h0, Or.inl ⟨apart _ h0, 0, Or.inl ⟨rfl, rfl⟩⟩⟩⟩
end GS
