/-! the class's pieces and the reference's: the class's polygon of two pieces has the reference's points and directions -/
/-- one piece is the other counted from another vertex -/
def Rot (A A' : List PT) : Prop := A.length = A'.length ∧ ∃ s, ∀ k, vR A k = vR A' (s + k)
def CP (A A' : List PT) : Prop := Rot A A' ∧ RP A'
theorem zR_back {V : List PT} (s v : Nat) (h : 0 < V.length) : ∃ p, zR V (s + p) = zR V v := by
  refine ⟨v + (V.length - 1) * s, ?_⟩
  unfold zR
  rw [vR_congr (b := v)]
  have e : s + (v + (V.length - 1) * s) = v + V.length * s := by
    obtain ⟨m, hm⟩ : ∃ m, V.length = m + 1 := ⟨V.length - 1, by omega⟩
    rw [hm, Nat.add_sub_cancel, Nat.add_mul, Nat.one_mul]; omega
  rw [e, Nat.add_mul_mod_self_left]
section CPS
variable {A A' B B' : List PT}
theorem CP.sm (H : CP A A') : SmV A := fun v hv => by
  obtain ⟨j, hj, e⟩ := List.getElem_of_mem hv
  obtain ⟨⟨h1, s, h2⟩, h3, -⟩ := H
  have q := h2 j
  have : vR A j = v := by
    unfold vR
    rw [Nat.mod_eq_of_lt hj, List.getD_eq_getElem?_getD, List.getElem?_eq_getElem hj, e]; rfl
  rw [← this, q]
  exact h3.get _
theorem CP.len (H : CP A A') : A.length = A'.length ∧ 2 < A'.length ∧ A'.length ≤ 6 := ⟨H.1.1, H.2.2.1⟩
theorem CP.cvx' (H : CP A A') : Cvx A'.length (zR A') := piece_cvx H.2.1 H.2.2.1.1 H.2.2.2
theorem CP.pg (H : CP A A') : PG 9 A ∧ ∃ s, ∀ k, zL A k = zR A' (s + k) := by
  obtain ⟨s, hs⟩ := H.1.2
  have hz : ∀ k, zR A k = zR A' (s + k) := fun k => by unfold zR; rw [hs]
  have C : Cvx A.length (zR A) := by
    rw [show zR A = fun k => zR A' (s + k) from funext hz, H.1.1]
    exact H.cvx'.shift s
  refine ⟨⟨by decide, fun v hv => H.sm v hv, low_of_cvx H.sm.bw C⟩, s + low A, fun k => ?_⟩
  show zR A (low A + k) = _
  rw [hz, Nat.add_assoc]
theorem CP.ngt (H : CP B B') : PG 9 (B.map (trP 2)) ∧ ∃ s, ∀ k, zL (B.map (trP 2)) k = zs (0, 0) (zR B' (s + k)) := by
  obtain ⟨s, hs⟩ := H.1.2
  have h0 : 0 < B.length := by have := H.len; omega
  have hz : ∀ k, zR (B.map (trP 2)) k = zs (0, 0) (zR B' (s + k)) := fun k => by
    rw [neg_zR H.sm k h0]
    unfold zR; rw [hs]
  have C : Cvx (B.map (trP 2)).length (zR (B.map (trP 2))) := by
    rw [show zR (B.map (trP 2)) = fun k => zs (0, 0) (zR B' (s + k)) from funext hz, List.length_map, H.1.1]
    exact (H.cvx'.shift s).neg
  refine ⟨⟨by decide, fun v hv => neg_sm H.sm v hv, low_of_cvx (neg_sm H.sm).bw C⟩, s + low (B.map (trP 2)), fun k => ?_⟩
  show zR (B.map (trP 2)) (low (B.map (trP 2)) + k) = _
  rw [hz, Nat.add_assoc]
theorem ed_neg (f : Nat → Z2) (k : Nat) : ed (fun v => zs (0, 0) (f v)) k = zs (0, 0) (ed f k) := by
  unfold ed zs; apply Prod.ext <;> dsimp only <;> omega
theorem ed_zR_mod {V : List PT} (k : Nat) : ed (zR V) (k % V.length) = ed (zR V) k := by
  unfold ed zR
  rw [vR_congr (Nat.mod_mod ..), vR_congr (a := k % V.length + 1) (b := k + 1) (Nat.mod_add_mod ..)]
theorem NR.a (H : CP A A') (k : Nat) : NR A' B' (ed (zR A') k) := by
  have h := H.len
  have hm := Nat.mod_lt k (show A'.length > 0 by omega)
  refine ⟨4 + k % A'.length, by omega, ?_⟩
  rw [cN_a H.2.1 (by omega) (by omega), show 4 + k % A'.length - 4 = k % A'.length by omega, ed_zR_mod]
theorem NR.b (H : CP B B') (k : Nat) : NR A' B' (zs (0, 0) (ed (zR B') k)) := by
  have h := H.len
  have hm := Nat.mod_lt k (show B'.length > 0 by omega)
  refine ⟨4 + A'.length + k % B'.length, by omega, ?_⟩
  rw [cN_b H.2.1 (by omega), show 4 + A'.length + k % B'.length - 4 - A'.length = k % B'.length by omega, ed_zR_mod]
theorem NR.ax (A' B' : List PT) {q : Nat} (h : q < 4) : NR A' B' (if q = 0 then (0, 1) else if q = 1 then (-1, 0) else if q = 2 then (0, -1) else (1, 0)) := ⟨q, by omega, (cN_axis A' B' h).symm⟩
theorem Cvx.ed_ne {n : Nat} {f : Nat → Z2} (H : Cvx n f) (k : Nat) : ed f k ≠ (0, 0) := fun q => by
  have := H.sq_pos k
  unfold sqE at this
  rw [q] at this
  exact absurd this (by decide)
theorem NR.nz (HA : CP A A') (HB : CP B B') {c : Z2} (h : NR A' B' c) : c ≠ (0, 0) := by
  obtain ⟨q, hq, rfl⟩ := h
  by_cases c1 : q < 4
  · rw [cN_axis A' B' c1]
    have : q = 0 ∨ q = 1 ∨ q = 2 ∨ q = 3 := by omega
    rcases this with rfl | rfl | rfl | rfl <;> decide
  · by_cases c2 : q < 4 + A'.length
    · rw [cN_a HA.2.1 (by omega) c2]
      exact HA.cvx'.ed_ne _
    · rw [cN_b HB.2.1 (by omega), ← ed_neg]
      exact HB.cvx'.neg.ed_ne _
/-- the polygon of two pieces -/
def nfQ (A B : List PT) : List PT := sumP A (B.map (trP 2))
theorem nf_all (HA : CP A A') (HB : CP B B') : PG 18 (nfQ A B) ∧ Mrg (zL (nfQ A B)) (zL A) (zL (B.map (trP 2))) ∧ Hul (nfQ A B).length (zL (nfQ A B)) (TR A' B' 0) ∧ Dir (zL (nfQ A B)) (NR A' B') := by
  obtain ⟨PA, sA, eA⟩ := HA.pg
  obtain ⟨PB, sB, eB⟩ := HB.ngt
  obtain ⟨PV, K, ⟨hK, hgo⟩, len, ez⟩ := pg_sum PA PB (by decide)
  have M : Mrg (zL (nfQ A B)) (zL A) (zL (B.map (trP 2))) := by
    show Mrg (zL (sumP A (B.map (trP 2)))) _ _
    rw [ez]; exact mV_mrg PA.2.2 PB.2.2 hK hgo
  have R := merge_rnd PA.2.2 PB.2.2 hK hgo
  have edA : ∀ k, ed (zL A) k = ed (zR A') (sA + k) := fun k => by
    unfold ed; rw [eA, eA, Nat.add_assoc]
  have edB : ∀ k, ed (zL (B.map (trP 2))) k = zs (0, 0) (ed (zR B') (sB + k)) := fun k => by
    rw [← ed_neg]
    unfold ed; rw [eB, eB, Nat.add_assoc]
  refine ⟨PV, M, ⟨PV.2.2.1, fun k => ?_, fun k t ht => ?_⟩, M.dir _ (fun c hc => NR.nz HA HB hc) (fun i => ?_) (fun j => ?_)⟩
  · obtain ⟨i, j, e, -⟩ := M k
    rw [e, eA, eB]
    refine ⟨sA + i, sB + j, (0, 0), ⟨Or.inl rfl, Or.inl rfl⟩, ?_⟩
    unfold za zs
    apply Prod.ext <;> dsimp only <;> omega
  · show 0 ≤ cr (ed (zL (sumP A (B.map (trP 2)))) k) (zs t (zL (sumP A (B.map (trP 2))) k))
    rw [ez]
    refine R.2.1 k t ?_
    obtain ⟨v, u, s, ⟨h1, h2⟩, rfl⟩ := ht
    have hA := HA.len
    have hB := HB.len
    obtain ⟨p, hp⟩ := zR_back (V := A') sA v (by omega)
    obtain ⟨q, hq⟩ := zR_back (V := B') sB u (by omega)
    refine ⟨p, q, ?_⟩
    rw [eA, eB, hp, hq]
    unfold za zs
    apply Prod.ext <;> dsimp only <;> omega
  · rw [edA]; exact NR.a HA _
  · rw [edB]; exact NR.b HB _
/-- overlap and touch: class and reference -/
theorem nf_loc (HA : CP A A') (HB : CP B B') {x y : Int32} (hp : Bd (x, y)) : (locP (nfQ A B) x y = 2 ↔ insP A' B' x y 0 0 = true) ∧ (locP (nfQ A B) x y ≠ 0 ↔ insP A' B' x y 0 1 = true) := by
  obtain ⟨PV, M, H, D⟩ := nf_all HA HB
  have hA := HA.len
  have hB := HB.len
  obtain ⟨l1, l2, -⟩ := loc_spec PV hp
  obtain ⟨i1, i2⟩ := ins_spec (r := 0) HA.2.1 HB.2.1 (by omega) (by omega) (by decide) (by decide) hp
  exact ⟨l1.trans ((in_strict H D _).trans i1.symm), l2.trans ((in_weak H D _).trans i2.symm)⟩
end CPS
