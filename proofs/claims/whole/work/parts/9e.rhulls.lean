/-! the reference's hulls and sums -/
noncomputable def huN (T : List PT) : Nat := @dite Nat (∃ m, HuE T m) (Classical.propDecidable _) (fun h => Classical.choose h) (fun _ => 0)
theorem huN_spec {T : List PT} (h : ∃ m, HuE T m) : HuE T (huN T) := by
  unfold huN; rw [@dif_pos _ (Classical.propDecidable _) h]; exact Classical.choose_spec h
noncomputable def hullR (T : List PT) : List PT := hrP T (huN T)
theorem hullR_len {T : List PT} : (hullR T).length = huN T := by unfold hullR hrP; simp
noncomputable def rHullSize (σ : RV) (x : Int32) : Int32 := ifC (Slt x) (ifC (slR σ x = []) (-1000002) (Int32.ofNat (hullR (slR σ x).flatten).length)) (-1000001)
noncomputable def rHullVertex (σ : RV) (x v c : Int32) : Int32 := ifC (Slt x ∧ ¬ v < 0 ∧ Prt c) (ifC (slR σ x = []) (-1000002) (ifC (v < Int32.ofNat (hullR (slR σ x).flatten).length) (if c = 0 then ((hullR (slR σ x).flatten).getD (nx v) (0, 0)).1 else ((hullR (slR σ x).flatten).getD (nx v) (0, 0)).2) (-1000009))) (-1000001)
def rsT (σ : RV) (sg x i y j : Int32) : List PT := sumT ((slR σ x).getD (nx i) []) ((slR σ y).getD (nx j) []) sg
noncomputable def rSumSize (σ : RV) (f x i y j : Int32) : Int32 := ifC (Prt f ∧ RHas σ x i ∧ RHas σ y j) (Int32.ofNat (hullR (rsT σ (1 - 2 * f) x i y j)).length) (-1000001)
noncomputable def rSumVertex (σ : RV) (f x i y j v : Int32) : Int32 := ifC (Prt f ∧ RHas σ x i ∧ RHas σ y j ∧ 0 ≤ v) (ifC (v < Int32.ofNat (hullR (rsT σ (1 - 2 * f) x i y j)).length) (1000 * ((hullR (rsT σ (1 - 2 * f) x i y j)).getD (nx v) (0, 0)).1 + ((hullR (rsT σ (1 - 2 * f) x i y j)).getD (nx v) (0, 0)).2) (-1000009)) (-1000001)
noncomputable def rSumArea (σ : RV) (x i y j : Int32) : Int32 := ifC (RHas σ x i ∧ RHas σ y j) (arR (hullR (rsT σ 1 x i y j))) (-1000001)
section RH
variable {E : EV} {h : AH} {z : Sc} {k : MK} {cs : List Int32} {σ : RV} {ps : List RV} {C : List PT}
theorem co_x {h : AH} (P : CoO h C) {j : Nat} (hj : j < C.length) {K : Int32 → Prop} (c : K (C.getD j (0, 0)).1) : aldI h (some 319) 0 (Int32.ofNat j) K := by
  obtain ⟨vx, vy, a, b, l, e⟩ := P
  have e := e j hj
  exact aldI_of a.1 (i32_nn (by omega)) (by rw [i32_n (by omega)]; exact getD_get (by omega)) (by rw [← e] at c; exact c)
theorem co_y {h : AH} (P : CoO h C) {j : Nat} (hj : j < C.length) {K : Int32 → Prop} (c : K (C.getD j (0, 0)).2) : aldI h (some 320) 0 (Int32.ofNat j) K := by
  obtain ⟨vx, vy, a, b, l, e⟩ := P
  have e := e j hj
  exact aldI_of b.1 (i32_nn (by omega)) (by rw [i32_n (by omega)]; exact getD_get (by omega)) (by rw [← e] at c; exact c)
theorem flat_ne0 {S : SH} {b : Nat} (B : Blk k b S) (hne : ¬ S = []) : S.flatten ≠ [] := fun q => by
  cases S with
  | nil => exact hne rfl
  | cons V S =>
    have := (B.2.2.2 0 (by simp)).2.1.1
    rw [List.flatten_cons] at q
    have e : V = [] := (List.append_eq_nil_iff.mp q).1
    rw [e] at this
    simp at this
theorem m11_hullSize (H : Mrf h cs σ ps) (x : Int32) (ok : Slt x → ¬ slR σ x = [] → ∃ m, HuE (slR σ x).flatten m) : sX11_hullSize E [aP (some 313), aI x] h (Rq cs σ ps h (rHullSize σ x)) := by
  obtain ⟨z, k, H, P, T⟩ := H
  refine eX11_hullSize ?_
  unfold PX11_hullSize_0 rHullSize
  refine csI (m11_isSlot x) ⟨fun c1 => ?_, fun c1 => ?_⟩
  · have sl := ifC1 rfl c1
    have ok := ok sl
    rw [ifC_pos sl]
    obtain ⟨j, rfl, hj, ej⟩ := sl.ex
    unfold slR at ok ⊢
    rw [ej] at ok ⊢
    have B := P.1.slot hj
    refine cvI H.1 (m11_isEmpty H B) ⟨fun c2 => ?_, fun c2 => ?_⟩
    · have ne := r00 rfl c2
      have hm := huN_spec (ok ne)
      rw [ifC_neg ne, hullR_len]
      refine csI (m11_slotAt j) (cvVq H.1 (m11_shapeHull H B (flat_ne0 B ne) hm) fun h' q => ?_)
      obtain ⟨⟨z', H', ez⟩, -, f⟩ := q
      exact (rdI_iff H'.1).mpr ⟨_, rfl, Rq.mk ez.symm ⟨z', k, H', P, T⟩ (f.weak (by omega) (by omega))⟩
    · rw [ifC_pos (r01 rfl c2)]
      exact Rq.mk rfl ⟨z, k, H, P, T⟩ Fr.refl
  · rw [ifC_neg (ifC0 rfl c1)]
    exact Rq.mk rfl ⟨z, k, H, P, T⟩ Fr.refl
theorem m11_hullVertex (H : Mrf h cs σ ps) (x v c : Int32) (ok : Slt x → ¬ slR σ x = [] → ∃ m, HuE (slR σ x).flatten m) : sX11_hullVertex E [aP (some 313), aI x, aI v, aI c] h (Rq cs σ ps h (rHullVertex σ x v c)) := by
  obtain ⟨z, k, H, P, T⟩ := H
  refine eX11_hullVertex ?_
  unfold PX11_hullVertex_0
  have bad : ¬ (Slt x ∧ ¬ v < 0 ∧ Prt c) → Rq cs σ ps h (rHullVertex σ x v c) (some (aI (-1000001))) h := fun q => by
    unfold rHullVertex; rw [ifC_neg q]; exact Rq.mk rfl ⟨z, k, H, P, T⟩ Fr.refl
  refine csI (m11_isSlot x) ⟨fun c1 => bad fun q => ifC0 rfl c1 q.1, fun c1 => ⟨fun c2 => bad fun q => q.2.1 c2, fun c2 => csI (m11_in c 0 1) ⟨fun c3 => ?_, fun c3 => bad fun q => ifC0 rfl c3 (in_prt.mpr q.2.2)⟩⟩⟩
  have oo : Slt x ∧ ¬ v < 0 ∧ Prt c := ⟨ifC1 rfl c1, c2, in_prt.mp (ifC1 rfl c3)⟩
  have ok := ok oo.1
  unfold rHullVertex; rw [ifC_pos oo]
  obtain ⟨j, rfl, hj, ej⟩ := oo.1.ex
  obtain ⟨n, rfl, n1, n2⟩ := i32_of (i32_not_lt.mp c2)
  unfold slR at ok ⊢
  rw [ej] at ok ⊢
  have B := P.1.slot hj
  refine cvI H.1 (m11_isEmpty H B) ⟨fun c4 => ?_, fun c4 => ?_⟩
  · have ne := r00 rfl c4
    have hm := huN_spec (ok ne)
    have h36 := hm.2.1
    rw [ifC_neg ne, hullR_len]
    refine csI (m11_slotAt j) (cvVq H.1 (m11_shapeHull H B (flat_ne0 B ne) hm) fun h' q => ?_)
    obtain ⟨⟨z', H', ez⟩, C, f⟩ := q
    have C : CoO h' (hullR (σ.1.getD j []).flatten) := C
    have fl : Fr 313 323 h h' := f.weak (by omega) (by omega)
    refine (rdI_iff H'.1).mpr ⟨_, rfl, ?_⟩
    rw [ez]
    refine ⟨fun c5 => ?_, fun c5 => ?_⟩
    · rw [ifC_pos c5]
      have hl : n < (hullR (σ.1.getD j []).flatten).length := by rw [hullR_len]; exact (i32_ltn n1 (by omega)).mp c5
      have en : nx (Int32.ofNat n) = n := n2
      rw [en]
      refine ⟨fun c6 => (rdP_iff H'.1).mpr ⟨_, rfl, co_y C hl ?_⟩, fun c6 => (rdP_iff H'.1).mpr ⟨_, rfl, co_x C hl ?_⟩⟩
      · rw [if_neg c6]; exact Rq.mk rfl ⟨z', k, H', P, T⟩ fl
      · rw [if_pos c6]; exact Rq.mk rfl ⟨z', k, H', P, T⟩ fl
    · rw [ifC_neg c5]; exact Rq.mk rfl ⟨z', k, H', P, T⟩ fl
  · rw [ifC_pos (r01 rfl c4)]
    exact Rq.mk rfl ⟨z, k, H, P, T⟩ Fr.refl
theorem m11_sumSize (H : Mrf h cs σ ps) (f x i y j : Int32) (ok : Prt f → RHas σ x i → RHas σ y j → ∃ m, HuE (rsT σ (1 - 2 * f) x i y j) m) : sX11_sumSize E [aP (some 313), aI f, aI x, aI i, aI y, aI j] h (Rq cs σ ps h (rSumSize σ f x i y j)) := by
  obtain ⟨z, k, H, P, T⟩ := H
  refine eX11_sumSize ?_
  unfold PX11_sumSize_0
  have bad : ¬ (Prt f ∧ RHas σ x i ∧ RHas σ y j) → Rq cs σ ps h (rSumSize σ f x i y j) (some (aI (-1000001))) h := fun q => by
    unfold rSumSize; rw [ifC_neg q]; exact Rq.mk rfl ⟨z, k, H, P, T⟩ Fr.refl
  refine csI (m11_in f 0 1) ⟨fun c1 => bad fun q => ifC0 rfl c1 (in_prt.mpr q.1), fun c1 => cvI H.1 (m11_hasPiece H P.1 x i) ⟨fun c2 => bad fun q => ifC0 rfl c2 q.2.1, fun c2 => cvI H.1 (m11_hasPiece H P.1 y j) ⟨fun c3 => ?_, fun c3 => bad fun q => ifC0 rfl c3 q.2.2⟩⟩⟩
  have oo : Prt f ∧ RHas σ x i ∧ RHas σ y j := ⟨in_prt.mp (ifC1 rfl c1), ifC1 rfl c2, ifC1 rfl c3⟩
  have hm := huN_spec (ok oo.1 oo.2.1 oo.2.2)
  unfold rSumSize; rw [ifC_pos oo, hullR_len]
  obtain ⟨a, p, rfl, ha, ea, rfl, hp, ep, e1⟩ := oo.2.1.ex P.1
  obtain ⟨b, q, rfl, hb, eb, rfl, hq, eq, e2⟩ := oo.2.2.ex P.1
  unfold rsT at hm ⊢
  rw [e1, e2, ep, eq] at hm ⊢
  refine csI (m11_slotAt a) (csI (m11_slotAt b) (cvVq H.1 (m11_sum H (P.1.slot ha) (P.1.slot hb) hp hq (1 - 2 * f) hm) fun h' q => ?_))
  obtain ⟨⟨z', H', ez⟩, -, f'⟩ := q
  exact (rdI_iff H'.1).mpr ⟨_, rfl, Rq.mk ez.symm ⟨z', k, H', P, T⟩ (f'.weak (by omega) (by omega))⟩
theorem m11_sumVertex (H : Mrf h cs σ ps) (f x i y j v : Int32) (ok : Prt f → RHas σ x i → RHas σ y j → ∃ m, HuE (rsT σ (1 - 2 * f) x i y j) m) : sX11_sumVertex E [aP (some 313), aI f, aI x, aI i, aI y, aI j, aI v] h (Rq cs σ ps h (rSumVertex σ f x i y j v)) := by
  obtain ⟨z, k, H, P, T⟩ := H
  refine eX11_sumVertex ?_
  unfold PX11_sumVertex_0
  have bad : ¬ (Prt f ∧ RHas σ x i ∧ RHas σ y j ∧ 0 ≤ v) → Rq cs σ ps h (rSumVertex σ f x i y j v) (some (aI (-1000001))) h := fun q => by
    unfold rSumVertex; rw [ifC_neg q]; exact Rq.mk rfl ⟨z, k, H, P, T⟩ Fr.refl
  refine csI (m11_in f 0 1) ⟨fun c1 => bad fun q => ifC0 rfl c1 (in_prt.mpr q.1), fun c1 => cvI H.1 (m11_hasPiece H P.1 x i) ⟨fun c2 => bad fun q => ifC0 rfl c2 q.2.1, fun c2 => cvI H.1 (m11_hasPiece H P.1 y j) ⟨fun c3 => bad fun q => ifC0 rfl c3 q.2.2.1, fun c3 => ⟨fun c4 => ?_, fun c4 => bad fun q => c4 q.2.2.2⟩⟩⟩⟩
  have oo : Prt f ∧ RHas σ x i ∧ RHas σ y j ∧ 0 ≤ v := ⟨in_prt.mp (ifC1 rfl c1), ifC1 rfl c2, ifC1 rfl c3, c4⟩
  have hm := huN_spec (ok oo.1 oo.2.1 oo.2.2.1)
  have h36 := hm.2.1
  unfold rSumVertex; rw [ifC_pos oo, hullR_len]
  obtain ⟨n, rfl, n1, n2⟩ := i32_of c4
  have en : nx (Int32.ofNat n) = n := n2
  rw [en]
  obtain ⟨a, p, rfl, ha, ea, rfl, hp, ep, e1⟩ := oo.2.1.ex P.1
  obtain ⟨b, q, rfl, hb, eb, rfl, hq, eq, e2⟩ := oo.2.2.1.ex P.1
  have hm' := hm
  unfold rsT at hm'
  rw [e1, e2, ep, eq] at hm'
  refine csI (m11_slotAt a) (csI (m11_slotAt b) (cvVq H.1 (m11_sum H (P.1.slot ha) (P.1.slot hb) hp hq (1 - 2 * f) hm') fun h' q => ?_))
  obtain ⟨⟨z', H', ez⟩, C, f'⟩ := q
  have es : rsT σ (1 - 2 * f) (Int32.ofNat a) (Int32.ofNat p) (Int32.ofNat b) (Int32.ofNat q) = sumT ((σ.1.getD a []).getD p []) ((σ.1.getD b []).getD q []) (1 - 2 * f) := by
    unfold rsT; rw [e1, e2, ep, eq]
  have C : CoO h' (hullR (rsT σ (1 - 2 * f) (Int32.ofNat a) (Int32.ofNat p) (Int32.ofNat b) (Int32.ofNat q))) := by rw [es]; exact C
  have ez : (zT z').2.2.2.1 = Int32.ofNat (huN (rsT σ (1 - 2 * f) (Int32.ofNat a) (Int32.ofNat p) (Int32.ofNat b) (Int32.ofNat q))) := by rw [es]; exact ez
  have fl : Fr 313 323 h h' := f'.weak (by omega) (by omega)
  refine (rdI_iff H'.1).mpr ⟨_, rfl, ?_⟩
  rw [ez]
  refine ⟨fun c5 => ?_, fun c5 => ?_⟩
  · rw [ifC_neg fun w => i32_not_le.mpr w c5]; exact Rq.mk rfl ⟨z', k, H', P, T⟩ fl
  · have c5 := i32_not_le.mp c5
    rw [ifC_pos c5]
    have hl : n < (hullR (rsT σ (1 - 2 * f) (Int32.ofNat a) (Int32.ofNat p) (Int32.ofNat b) (Int32.ofNat q))).length := by rw [hullR_len]; exact (i32_ltn n1 (by omega)).mp c5
    exact (rdP_iff H'.1).mpr ⟨_, rfl, co_x C hl ((rdP_iff H'.1).mpr ⟨_, rfl, co_y C hl (Rq.mk rfl ⟨z', k, H', P, T⟩ fl)⟩)⟩
theorem m11_sumDoubleArea (H : Mrf h cs σ ps) (x i y j : Int32) (ok : RHas σ x i → RHas σ y j → ∃ m, HuE (rsT σ 1 x i y j) m) : sX11_sumDoubleArea E [aP (some 313), aI x, aI i, aI y, aI j] h (Rq cs σ ps h (rSumArea σ x i y j)) := by
  obtain ⟨z, k, H, P, T⟩ := H
  refine uX11_sumDoubleArea (fun m h' l0 l5 l6 => ∃ v z', m = 100 - v ∧ v ≤ (hullR (rsT σ 1 x i y j)).length ∧ l0 = some 313 ∧ l6 = Int32.ofNat v ∧ l5 = (List.range v).foldl (fun s v => s + ((vR (hullR (rsT σ 1 x i y j)) v).1 * (vR (hullR (rsT σ 1 x i y j)) (v + 1)).2 - (vR (hullR (rsT σ 1 x i y j)) (v + 1)).1 * (vR (hullR (rsT σ 1 x i y j)) v).2)) 0 ∧ (RHas σ x i ∧ RHas σ y j) ∧ MoZ h' z' k ∧ (zT z').2.2.2.1 = Int32.ofNat (hullR (rsT σ 1 x i y j)).length ∧ (1 ≤ (hullR (rsT σ 1 x i y j)).length ∧ (hullR (rsT σ 1 x i y j)).length ≤ 36) ∧ CoO h' (hullR (rsT σ 1 x i y j)) ∧ Fr 313 321 h h') ?_ ?_
  · unfold PX11_sumDoubleArea_0
    have bad : ¬ (RHas σ x i ∧ RHas σ y j) → Rq cs σ ps h (rSumArea σ x i y j) (some (aI (-1000001))) h := fun q => by
      unfold rSumArea; rw [ifC_neg q]; exact Rq.mk rfl ⟨z, k, H, P, T⟩ Fr.refl
    refine cvI H.1 (m11_hasPiece H P.1 x i) ⟨fun c2 => bad fun q => ifC0 rfl c2 q.1, fun c2 => cvI H.1 (m11_hasPiece H P.1 y j) ⟨fun c3 => ?_, fun c3 => bad fun q => ifC0 rfl c3 q.2⟩⟩
    have oo : RHas σ x i ∧ RHas σ y j := ⟨ifC1 rfl c2, ifC1 rfl c3⟩
    have hm := huN_spec (ok oo.1 oo.2)
    have hm' := hm
    obtain ⟨a, p, rfl, ha, ea, rfl, hp, ep, e1⟩ := oo.1.ex P.1
    obtain ⟨b, q, rfl, hb, eb, rfl, hq, eq, e2⟩ := oo.2.ex P.1
    have es : rsT σ 1 (Int32.ofNat a) (Int32.ofNat p) (Int32.ofNat b) (Int32.ofNat q) = sumT ((σ.1.getD a []).getD p []) ((σ.1.getD b []).getD q []) 1 := by
      unfold rsT; rw [e1, e2, ep, eq]
    rw [es] at hm'
    refine csI (m11_slotAt a) (csI (m11_slotAt b) (cvVq H.1 (m11_sum H (P.1.slot ha) (P.1.slot hb) hp hq 1 hm') fun h' q => ?_))
    obtain ⟨⟨z', H', ez⟩, C, f'⟩ := q
    refine ⟨_, 0, z', rfl, Nat.zero_le _, rfl, rfl, rfl, oo, H', by rw [hullR_len, es]; exact ez, by rw [hullR_len]; exact ⟨hm.1, hm.2.1⟩, by rw [es]; exact C, f'⟩
  · rintro m h' l0 l5 l6 ⟨v, z', rfl, hv, rfl, rfl, rfl, oo, H', ez, hl, C, f⟩
    unfold PX11_sumDoubleArea_44
    generalize hP : hullR (rsT σ 1 x i y j) = W at *
    refine (rdI_iff H'.1).mpr ⟨_, rfl, ?_⟩
    rw [ez]
    refine ⟨fun c => ?_, fun c => ?_⟩
    · have c := (i32_le (by omega) (by omega)).mp c
      have : v = W.length := by omega
      subst this
      unfold rSumArea; rw [ifC_pos oo, hP]
      exact Rq.mk rfl ⟨z', k, H', P, T⟩ (f.weak (by omega) (by omega))
    · have c := mt (i32_le (i := W.length) (j := v) (by omega) (by omega)).mpr c
      have hvv : v < W.length := by omega
      refine (rdI_iff H'.1).mpr ⟨_, rfl, ?_⟩
      rw [ez, i32_s]
      refine ⟨fun q => by have := i32_inj (n := 0) (by omega) (by omega) q; omega, ?_⟩
      rintro _ rfl
      rw [i32_rem (by omega) (by omega)]
      have hm : (v + 1) % W.length < W.length := Nat.mod_lt _ (by omega)
      refine (rdP_iff H'.1).mpr ⟨_, rfl, co_x C hvv ((rdP_iff H'.1).mpr ⟨_, rfl, co_y C hm ((rdP_iff H'.1).mpr ⟨_, rfl, co_x C hm ((rdP_iff H'.1).mpr ⟨_, rfl, co_y C hvv ?_⟩)⟩)⟩)⟩
      rintro _ rfl
      refine ⟨_, by omega, v + 1, z', rfl, hvv, rfl, rfl, ?_, oo, H', ez, hl, C, f⟩
      rw [fold_succ, vR_lt hvv]; rfl
end RH
