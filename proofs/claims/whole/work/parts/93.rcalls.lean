/-! the reference's calls: undo, slots, container, removal -/
def Mrf (h : AH) (cs : List Int32) (σ : RV) (ps : List RV) : Prop := ∃ z k, MoZ h z k ∧ MsK k σ ps ∧ TxR k cs
def Rq (cs : List Int32) (σ : RV) (ps : List RV) (h : AH) (v : Int32) : Option AV → AH → Prop := kI fun r h' => r = v ∧ Mrf h' cs σ ps ∧ Fr 313 323 h h'
theorem Rq.mk {cs : List Int32} {σ : RV} {ps : List RV} {h h' : AH} {v r : Int32} (e : v = r) (H : Mrf h' cs σ ps) (f : Fr 313 323 h h') : Rq cs σ ps h v (some (aI r)) h' := ⟨r, rfl, e.symm, H, f⟩
theorem MsK.s {k : MK} {σ σ' : RV} {ps : List RV} {s : List Int32} (P : MsK k σ ps) (R : RsF (sA (s, k.2)) σ') : MsK (s, k.2) σ' ps := ⟨R, P.2⟩
theorem RsF.setSlot {f g : Nat → Int32} {σ : RV} {j : Nat} {S : SH} (R : RsF f σ) (hj : j < 4) (e : ∀ i, i < 500 → (i < 4 + 40 * j ∨ 44 + 40 * j ≤ i) → g i = f i) (B : BlF g (4 + 40 * j) S) : RsF g (σ.1.set j S, σ.2) := by
  obtain ⟨P1, P2, P3, P4, P5⟩ := R
  refine ⟨⟨(List.length_set ..).trans P1.1, P1.2⟩, ⟨(e 0 (by omega) (by omega)).trans P2.1, (e 1 (by omega) (by omega)).trans P2.2.1, (e 2 (by omega) (by omega)).trans P2.2.2⟩, (e 3 (by omega) (by omega)).trans P3, fun q hq => ?_, fun i hi => ?_⟩
  · show BlF g _ ((σ.1.set j S).getD q [])
    rw [getD_set]
    by_cases c : j = q
    · subst c; rw [if_pos ⟨rfl, by rw [P1.1]; exact hj⟩]; exact B
    · rw [if_neg (fun w => c w.1)]
      exact (P4 q hq).same fun i h1 h2 => e i (by omega) (by omega)
  · have hi : i < σ.2.1.length := hi
    have := P1.2
    obtain ⟨d1, d2, d3⟩ := P5 i hi
    exact ⟨d1.same fun q h1 h2 => e q (by omega) (by omega), (e _ (by omega) (by omega)).trans d2, (e _ (by omega) (by omega)).trans d3⟩
abbrev slR (σ : RV) (x : Int32) : SH := σ.1.getD (nx x) []
def RItm (σ : RV) (i : Int32) : Prop := ¬ i < 0 ∧ ¬ Int32.ofNat σ.2.1.length ≤ i
noncomputable def rUndo (σ : RV) (ps : List RV) : Int32 × RV × List RV := ifC (ps = []) (-1000002, σ, ps) (Int32.ofNat (ps.length - 1), ps.getD (ps.length - 1) dV, ps.dropLast)
noncomputable def rClear (σ : RV) (ps : List RV) (x : Int32) : Int32 × RV × List RV := ifC (Slt x) (ifC (slR σ x = []) (-1000002, σ, ps) (Int32.ofNat (slR σ x).length, (σ.1.set (nx x) [], σ.2), pushR ps σ)) (-1000001, σ, ps)
def qtN : Nat → SH → SH
  | 0, S => S
  | n + 1, S => qtS (qtN n S)
noncomputable def rCopy (σ : RV) (ps : List RV) (x y t : Int32) : Int32 × RV × List RV := ifC (Slt x ∧ Slt y ∧ inP t 0 3) (ifC (slR σ x = []) (-1000002, σ, ps) (Int32.ofNat (slR σ x).length, (σ.1.set (nx y) (qtN (nx t) (slR σ x)), σ.2), pushR ps σ)) (-1000001, σ, ps)
noncomputable def rLoad (cs : List Int32) (σ : RV) (ps : List RV) (x : Int32) : Int32 × List Int32 × RV × List RV := ifC (Slt x) (if (rwGo cs 3 0 []).1 = true then (Int32.ofNat (rwGo cs 3 0 []).2.2.length, [], (σ.1.set (nx x) (rwGo cs 3 0 []).2.2, σ.2), pushR ps σ) else (-10 - Int32.ofNat (rwGo cs 3 0 []).2.1, cs, σ, ps)) (-1000001, cs, σ, ps)
noncomputable def rCont (σ : RV) (ps : List RV) (w hh : Int32) : Int32 × RV × List RV := ifC (inP w 1 40 ∧ inP hh 1 40) (Int32.ofNat σ.2.1.length, (σ.1, [], w, hh, σ.2.2.2.2), pushR ps σ) (-1000001, σ, ps)
noncomputable def rRemove (σ : RV) (ps : List RV) (i : Int32) : Int32 × RV × List RV := ifC (RItm σ i) (Int32.ofNat (σ.2.1.length - 1), (σ.1, σ.2.1.eraseIdx (nx i), σ.2.2), pushR ps σ) (-1000001, σ, ps)
section RC
variable {E : EV} {h : AH} {z : Sc} {k : MK} {cs : List Int32} {σ : RV} {ps : List RV}
theorem Slt.ex {x : Int32} (h : Slt x) : ∃ j, x = Int32.ofNat j ∧ j < 4 ∧ nx (Int32.ofNat j) = j := ⟨nx x, h.nat.1, h.nat.2, i32_n (Nat.lt_trans h.nat.2 (by omega))⟩
theorem in_item {n : Nat} (hn : n ≤ 8) {i : Int32} : inP i 0 (Int32.ofNat n - 1) ↔ ¬ i < 0 ∧ ¬ Int32.ofNat n ≤ i := by
  unfold inP
  have e : (Int32.ofNat n - 1).toInt = n - 1 := by
    rw [i32_subE (by rw [i32_lt (by omega)]; omega) (by rw [i32_lt (by omega)]; omega) (by decide) (by decide), i32_lt (by omega)]; rfl
  rw [Int32.lt_iff_toInt_lt, Int32.lt_iff_toInt_lt, Int32.le_iff_toInt_le, e, i32_lt (by omega)]
  constructor
  · rintro ⟨h1, h2⟩; exact ⟨h1, by omega⟩
  · rintro ⟨h1, h2⟩; exact ⟨h1, by omega⟩
theorem m11_isItem (H : MoZ h z k) (P : RsF (sA k) σ) (x : Int32) : sX11_isItem E [aP (some 313), aI x] h (kI fun r h' => r = ifC (RItm σ x) 1 0 ∧ h' = h) := by
  refine eX11_isItem ?_
  unfold PX11_isItem_0
  refine (rdP_iff H.1).mpr ⟨_, rfl, H.ld (i := 3) (by omega) ?_⟩
  rw [P.2.2.1]
  refine csI (m11_in x 0 _) ⟨ifC01, _, rfl, ?_, rfl⟩
  unfold RItm
  congr 1
  exact propext (in_item P.1.2)
theorem RItm.ex {x : Int32} (h : RItm σ x) (h8 : σ.2.1.length ≤ 8) : ∃ j, x = Int32.ofNat j ∧ j < σ.2.1.length ∧ nx (Int32.ofNat j) = j := by
  obtain ⟨n, rfl, h1, h2⟩ := i32_of (i32_not_lt.mp h.1)
  exact ⟨n, rfl, by have := mt (i32_le (i := σ.2.1.length) (j := n) (by omega) h1).mpr h.2; omega, h2⟩
theorem m11_undo (H : Mrf h cs σ ps) : sX11_undo E [aP (some 313)] h (Rq cs (rUndo σ ps).2.1 (rUndo σ ps).2.2 h (rUndo σ ps).1) := by
  obtain ⟨z, k, H, P, T⟩ := H
  refine eX11_undo ?_
  unfold PX11_undo_0
  have hp := P.2.2.1
  refine (rdI_iff H.1).mpr ⟨_, rfl, ?_⟩
  rw [P.2.1]
  rcases List.eq_nil_or_concat ps with e | ⟨qs, τ, e⟩
  · subst e
    refine ⟨fun c => absurd rfl c, fun _ => ?_⟩
    unfold rUndo; rw [ifC_pos rfl]
    exact Rq.mk rfl ⟨z, k, H, P, T⟩ Fr.refl
  · rw [List.concat_eq_append] at e
    subst e
    have el : (qs ++ [τ]).length = qs.length + 1 := by rw [List.length_append]; rfl
    refine ⟨fun c => ?_, fun c => ?_⟩
    · refine cvVq H.1 (m11_goesBack H P) fun h3 q3 => ?_
      obtain ⟨s, H3, P3, f3⟩ := q3
      refine (rdI_iff H3.1).mpr ⟨_, rfl, ?_⟩
      unfold rUndo; rw [ifC_neg (by simp)]
      have e1 : (qs ++ [τ]).length - 1 = qs.length := by omega
      rw [e1, List.dropLast_concat, getD_app, if_neg (by omega), if_pos rfl]
      exact Rq.mk rfl ⟨z, _, H3, P3, T⟩ (f3.weak (by omega) (by omega))
    · have := i32_inj (n := 0) (by omega) (by omega) c
      omega
theorem m11_clearShape (H : Mrf h cs σ ps) (x : Int32) : sX11_clearShape E [aP (some 313), aI x] h (Rq cs (rClear σ ps x).2.1 (rClear σ ps x).2.2 h (rClear σ ps x).1) := by
  obtain ⟨z, k, H, P, T⟩ := H
  refine eX11_clearShape ?_
  unfold PX11_clearShape_0
  refine csI (m11_isSlot x) ⟨fun c1 => ?_, fun c1 => ?_⟩
  · have sl := ifC1 rfl c1
    obtain ⟨j, rfl, hx, ej⟩ := sl.ex
    unfold rClear slR; rw [ifC_pos sl, ej]
    refine cvI H.1 (m11_isEmpty H (P.1.slot hx)) ⟨fun c2 => ?_, fun c2 => ?_⟩
    · have ne : ¬ σ.1.getD j [] = [] := fun q => by rw [if_pos q] at c2; exact absurd c2 (by decide)
      rw [ifC_neg ne]
      refine cvVq H.1 (m11_note H P) fun h6 q6 => ?_
      obtain ⟨pt, n, H6, P6, f6⟩ := q6
      refine csI (m11_slotAt j) (cvI H6.1 (m11_pieces H6 (P6.1.slot hx)) ((rdP_iff H6.1).mpr ⟨_, rfl, csI (m11_slotAt j) (H6.st (by omega) ?_)⟩))
      refine Rq.mk rfl ⟨z, _, H6.set1 (4 + 40 * j) 0, P6.s (P6.1.setSlot hx (fun i hi hd => ?_) ⟨by simp, ?_, fun p hp => absurd hp (by simp)⟩), T⟩ ((f6.weak (by omega) (by omega)).trans (fr4.weak (by omega) (by omega)))
      · exact (sA_set (k := kPs k pt n) (j := i) H6.2.1.2 (by omega)).trans (if_neg (by omega))
      · exact (sA_set (k := kPs k pt n) (j := 4 + 40 * j) H6.2.1.2 (by omega)).trans (if_pos rfl)
    · have e : σ.1.getD j [] = [] := Decidable.of_not_not fun q => c2 (if_neg q)
      rw [ifC_pos e]
      exact Rq.mk rfl ⟨z, k, H, P, T⟩ Fr.refl
  · unfold rClear; rw [ifC_neg (ifC0 rfl c1)]
    exact Rq.mk rfl ⟨z, k, H, P, T⟩ Fr.refl
theorem m11_setContainer (H : Mrf h cs σ ps) (w hh : Int32) : sX11_setContainer E [aP (some 313), aI w, aI hh] h (Rq cs (rCont σ ps w hh).2.1 (rCont σ ps w hh).2.2 h (rCont σ ps w hh).1) := by
  obtain ⟨z, k, H, P, T⟩ := H
  refine eX11_setContainer ?_
  unfold PX11_setContainer_0
  have bad : ¬ (inP w 1 40 ∧ inP hh 1 40) → Rq cs (rCont σ ps w hh).2.1 (rCont σ ps w hh).2.2 h (rCont σ ps w hh).1 (some (aI (-1000001))) h := fun q => by
    unfold rCont; rw [ifC_neg q]; exact Rq.mk rfl ⟨z, k, H, P, T⟩ Fr.refl
  refine csI (m11_in w 1 40) ⟨fun c1 => bad fun q => ifC0 rfl c1 q.1, fun c1 => csI (m11_in hh 1 40) ⟨fun c2 => ?_, fun c2 => bad fun q => ifC0 rfl c2 q.2⟩⟩
  unfold rCont; rw [ifC_pos ⟨ifC1 rfl c1, ifC1 rfl c2⟩]
  refine cvVq H.1 (m11_note H P) fun h6 q6 => ?_
  obtain ⟨pt, n, H6, P6, f6⟩ := q6
  refine (rdP_iff H6.1).mpr ⟨_, rfl, H6.ld (i := 3) (by omega) ((rdP_iff H6.1).mpr ⟨_, rfl, H6.st (i := 0) (by omega) ?_⟩)⟩
  have H7 := H6.set1 0 w
  refine (rdP_iff H7.1).mpr ⟨_, rfl, H7.st (i := 1) (by omega) ?_⟩
  have H8 := H7.set1 1 hh
  refine (rdP_iff H8.1).mpr ⟨_, rfl, H8.st (i := 3) (by omega) ?_⟩
  have H9 := H8.set1 3 0
  have l0 : k.1.length = 580 := H.2.1.2
  have g : ∀ i, (((k.1.set 0 w).set 1 hh).set 3 0).getD i 0 = if i = 3 then 0 else if i = 1 then hh else if i = 0 then w else sA k i := fun i => by
    rw [getD_set, getD_set, getD_set, List.length_set, List.length_set, l0]
    by_cases c3 : i = 3
    · subst c3; rw [if_pos (by omega)]; rfl
    · rw [if_neg (by omega), if_neg c3]
      by_cases c1 : i = 1
      · subst c1; rw [if_pos (by omega)]; rfl
      · rw [if_neg (by omega), if_neg c1]
        by_cases c0 : i = 0
        · subst c0; rw [if_pos (by omega)]; rfl
        · rw [if_neg (by omega), if_neg c0]; rfl
  obtain ⟨R1, R2, R3, R4, R5⟩ := P6.1
  refine Rq.mk R3.symm ⟨z, _, H9, P6.s ⟨⟨R1.1, by simp⟩, ⟨(g 0).trans rfl, (g 1).trans rfl, (g 2).trans R2.2.2⟩, (g 3).trans rfl, fun j hj => (R4 j hj).same fun i h1 h2 => (g i).trans ?_, fun i hi => absurd hi (by simp)⟩, T⟩ ((f6.weak (by omega) (by omega)).trans (((fr4.trans fr4).trans fr4).weak (by omega) (by omega)))
  rw [if_neg (by omega), if_neg (by omega), if_neg (by omega)]; rfl
theorem m11_removeItem (H : Mrf h cs σ ps) (x : Int32) : sX11_removeItem E [aP (some 313), aI x] h (Rq cs (rRemove σ ps x).2.1 (rRemove σ ps x).2.2 h (rRemove σ ps x).1) := by
  obtain ⟨z, k, H, P, T⟩ := H
  obtain ⟨R1, R2, R3, R4, R5⟩ := id P.1
  have hn := R1.2
  refine uX11_removeItem (fun m h' l0 l2 => ∃ j pt n s, m = 600 - j ∧ l0 = some 313 ∧ l2 = Int32.ofNat j ∧ 164 + 42 * nx x ≤ j ∧ nx x < σ.2.1.length ∧ RItm σ x ∧ j ≤ 164 + 42 * (σ.2.1.length - 1) ∧ MoZ h' z (s, (kPs k pt n).2) ∧ MsK (kPs k pt n) σ (pushR ps σ) ∧ s.getD 3 0 = Int32.ofNat (σ.2.1.length - 1) ∧ (∀ i, i ≠ 3 → s.getD i 0 = if 164 + 42 * nx x ≤ i ∧ i < j then sA k (i + 42) else sA k i) ∧ Fr 313 323 h h') ?_ ?_
  · unfold PX11_removeItem_0
    refine cvI H.1 (m11_isItem H P.1 x) ⟨fun c1 => ?_, fun c1 => ?_⟩
    · have hI := ifC1 rfl c1
      obtain ⟨j, rfl, hx, ej⟩ := hI.ex hn
      refine cvVq H.1 (m11_note H P) fun h6 q6 => ?_
      obtain ⟨pt, n, H6, P6, f6⟩ := q6
      refine (rdP_iff H6.1).mpr ⟨_, rfl, H6.ld (i := 3) (by omega) (H6.st (i := 3) (by omega) (csI (m11_itemShape j) ?_))⟩
      have l0 : k.1.length = 580 := H.2.1.2
      refine ⟨_, 164 + 42 * j, pt, n, _, rfl, rfl, rfl, by rw [ej]; omega, by rw [ej]; exact hx, hI, by omega, H6.set1 _ _, P6, ?_, fun i h3 => ?_, (f6.weak (by omega) (by omega)).trans (fr4.weak (by omega) (by omega))⟩
      · show (k.1.set 3 (sA k 3 - 1)).getD 3 0 = _
        rw [getD_set, if_pos ⟨rfl, by omega⟩, R3, i32_pred (by omega) (by omega)]
      · show (k.1.set 3 _).getD i 0 = _
        rw [getD_set, if_neg (by omega), if_neg (by omega)]; rfl
    · unfold rRemove; rw [ifC_neg (ifC0 rfl c1)]
      exact Rq.mk rfl ⟨z, k, H, P, T⟩ Fr.refl
  · rintro m h' l0 l2 ⟨j, pt, n, s, rfl, rfl, rfl, hj1, hx, hI, hj2, H', P', e3, hs, f⟩
    have len : s.length = 580 := H'.2.1.2
    unfold PX11_removeItem_30
    refine (rdP_iff H'.1).mpr ⟨_, rfl, H'.ld (i := 3) (by omega) ?_⟩
    rw [show sA (s, (kPs k pt n).2) 3 = Int32.ofNat (σ.2.1.length - 1) from e3]
    refine csI (m11_itemShape (σ.2.1.length - 1)) ⟨fun c => ?_, fun c => ?_⟩
    · have c := (i32_le (by omega) (by omega)).mp c
      have hj : j = 164 + 42 * (σ.2.1.length - 1) := by omega
      refine (rdP_iff H'.1).mpr ⟨_, rfl, H'.ld (i := 3) (by omega) ?_⟩
      rw [show sA (s, (kPs k pt n).2) 3 = Int32.ofNat (σ.2.1.length - 1) from e3]
      unfold rRemove; rw [ifC_pos hI]
      have el : (σ.2.1.eraseIdx (nx x)).length = σ.2.1.length - 1 := by rw [List.length_eraseIdx, if_pos hx]
      have g0 : ∀ i, i ≠ 3 → i < 164 → s.getD i 0 = sA k i := fun i h3 h1 => by rw [hs i h3, if_neg (by omega)]
      refine Rq.mk rfl ⟨z, _, H', P'.s ⟨⟨R1.1, by show (σ.2.1.eraseIdx (nx x)).length ≤ 8; omega⟩, ⟨(g0 0 (by omega) (by omega)).trans R2.1, (g0 1 (by omega) (by omega)).trans R2.2.1, (g0 2 (by omega) (by omega)).trans R2.2.2⟩, ?_, fun q hq => (R4 q hq).same fun i h1 h2 => g0 i (by omega) (by omega), fun i hi => ?_⟩, T⟩ f
      · show _ = Int32.ofNat (σ.2.1.eraseIdx (nx x)).length
        rw [el]; exact e3
      · have hi : i < (σ.2.1.eraseIdx (nx x)).length := hi
        rw [el] at hi
        show BlF _ _ ((σ.2.1.eraseIdx (nx x)).getD i dI).1 ∧ _ = ((σ.2.1.eraseIdx (nx x)).getD i dI).2.1 ∧ _ = ((σ.2.1.eraseIdx (nx x)).getD i dI).2.2
        have ge : (σ.2.1.eraseIdx (nx x)).getD i dI = if i < nx x then σ.2.1.getD i dI else σ.2.1.getD (i + 1) dI := by
          rw [List.getD_eq_getElem?_getD, List.getElem?_eraseIdx]
          split
          · rw [List.getD_eq_getElem?_getD]
          · rw [List.getD_eq_getElem?_getD]
        rw [ge]
        by_cases ci : i < nx x
        · rw [if_pos ci]
          obtain ⟨d1, d2, d3⟩ := R5 i (by omega)
          have g1 : ∀ q, q ≠ 3 → q < 164 + 42 * nx x → s.getD q 0 = sA k q := fun q h3 h1 => by rw [hs q h3, if_neg (by omega)]
          exact ⟨d1.same fun q h1 h2 => g1 q (by omega) (by omega), (g1 _ (by omega) (by omega)).trans d2, (g1 _ (by omega) (by omega)).trans d3⟩
        · rw [if_neg ci]
          obtain ⟨d1, d2, d3⟩ := R5 (i + 1) (by omega)
          have g1 : ∀ q, 164 + 42 * nx x ≤ q → q < j → s.getD q 0 = sA k (q + 42) := fun q h3 h1 => by rw [hs q (by omega), if_pos ⟨h3, h1⟩]
          refine ⟨d1.tr fun q hq => ?_, ?_, ?_⟩
          · exact (g1 (164 + 42 * i + q) (by omega) (by omega)).trans (by congr 1; omega)
          · rw [← d2, show 204 + 42 * (i + 1) = 204 + 42 * i + 42 by omega]; exact g1 (204 + 42 * i) (by omega) (by omega)
          · rw [← d3, show 205 + 42 * (i + 1) = 205 + 42 * i + 42 by omega]; exact g1 (205 + 42 * i) (by omega) (by omega)
    · have c := mt (i32_le (i := 164 + 42 * (σ.2.1.length - 1)) (j := j) (by omega) (by omega)).mpr c
      refine (rdP_iff H'.1).mpr ⟨_, rfl, (rdP_iff H'.1).mpr ⟨_, rfl, ?_⟩⟩
      rw [show Int32.ofNat j + 42 = Int32.ofNat (j + 42) by rw [Int32.ofNat_add]; rfl]
      refine H'.ld (by omega) (H'.st (by omega) ⟨_, by omega, j + 1, pt, n, _, rfl, rfl, i32_s _, by omega, hx, hI, by omega, H'.set1 _ _, P', ?_, fun i h3 => ?_, f.trans (fr4.weak (by omega) (by omega))⟩)
      · show (s.set _ _).getD _ 0 = _
        rw [getD_set, if_neg (by omega)]; exact e3
      · show (s.set _ (s.getD (j + 42) 0)).getD _ 0 = _
        have e : s.getD (j + 42) 0 = sA k (j + 42) := by rw [hs _ (by omega), if_neg (by omega)]
        rw [getD_set, len, e]
        by_cases ci : i = j
        · subst ci; rw [if_pos ⟨rfl, by omega⟩, if_pos (by omega)]
        · rw [if_neg (by omega), hs i h3]
          by_cases c2 : 164 + 42 * nx x ≤ i ∧ i < j
          · rw [if_pos c2, if_pos (by omega)]
          · rw [if_neg c2, if_neg (by omega)]
theorem m11_copyShape (H : Mrf h cs σ ps) (x y t : Int32) : sX11_copyShape E [aP (some 313), aI x, aI y, aI t] h (Rq cs (rCopy σ ps x y t).2.1 (rCopy σ ps x y t).2.2 h (rCopy σ ps x y t).1) := by
  obtain ⟨z, k, H, P, T⟩ := H
  have bad : ¬ (Slt x ∧ Slt y ∧ inP t 0 3) → Rq cs (rCopy σ ps x y t).2.1 (rCopy σ ps x y t).2.2 h (rCopy σ ps x y t).1 (some (aI (-1000001))) h := fun q => by
    unfold rCopy; rw [ifC_neg q]; exact Rq.mk rfl ⟨z, k, H, P, T⟩ Fr.refl
  refine uX11_copyShape (fun m h' l0 l2 l3 l4 => ∃ j k', m = 600 - j ∧ l0 = some 313 ∧ l2 = y ∧ l3 = t ∧ l4 = Int32.ofNat j ∧ j ≤ nx t ∧ (Slt x ∧ Slt y ∧ inP t 0 3) ∧ ¬ slR σ x = [] ∧ MoZ h' z k' ∧ MsK k' (σ.1.set (nx y) (qtN j (slR σ x)), σ.2) (pushR ps σ) ∧ TxR k' cs ∧ Fr 313 323 h h') ?_ ?_
  · unfold PX11_copyShape_0
    refine csI (m11_isSlot x) ⟨fun c1 => bad fun q => ifC0 rfl c1 q.1, fun c1 => csI (m11_isSlot y) ⟨fun c2 => bad fun q => ifC0 rfl c2 q.2.1, fun c2 => csI (m11_in t 0 3) ⟨fun c3 => ?_, fun c3 => bad fun q => ifC0 rfl c3 q.2.2⟩⟩⟩
    have ok : Slt x ∧ Slt y ∧ inP t 0 3 := ⟨ifC1 rfl c1, ifC1 rfl c2, ifC1 rfl c3⟩
    obtain ⟨i, rfl, hi, ei⟩ := ok.1.ex
    obtain ⟨j, rfl, hj, ej⟩ := ok.2.1.ex
    refine cvI H.1 (m11_isEmpty H (P.1.slot hi)) ⟨fun c4 => ?_, fun c4 => ?_⟩
    · have ne : ¬ σ.1.getD i [] = [] := fun q => by rw [if_pos q] at c4; exact absurd c4 (by decide)
      refine cvVq H.1 (m11_note H P) fun h6 q6 => ?_
      obtain ⟨pt, n, H6, P6, f6⟩ := q6
      refine csI (m11_slotAt i) (csI (m11_slotAt j) (cvVq H6.1 (m11_copy H6 (by omega) (by omega) (by omega)) fun h8 q8 => ?_))
      obtain ⟨s, H8, hs, f8⟩ := q8
      have B0 : BlF (sA (s, (kPs k pt n).2)) (4 + 40 * j) (σ.1.getD i []) := (P6.1.2.2.2.1 i hi).tr fun q hq => by
        show s.getD _ 0 = _
        rw [hs, if_pos (by omega)]; congr 1; omega
      refine ⟨_, 0, _, rfl, rfl, rfl, rfl, rfl, by omega, ok, by unfold slR; rw [ei]; exact ne, H8, P6.s ?_, T, (f6.weak (by omega) (by omega)).trans (f8.weak (by omega) (by omega))⟩
      unfold slR
      rw [ei, ej]
      refine P6.1.setSlot hj (fun q hq hd => ?_) B0
      show s.getD q 0 = _
      rw [hs, if_neg (by omega)]
    · have e : σ.1.getD i [] = [] := Decidable.of_not_not fun q => c4 (if_neg q)
      unfold rCopy slR; rw [ifC_pos ok, ei, ifC_pos e]
      exact Rq.mk rfl ⟨z, k, H, P, T⟩ Fr.refl
  · rintro m h' l0 l2 l3 l4 ⟨j, k', rfl, rfl, rfl, rfl, rfl, hj, ok, ne, H', P', T', f⟩
    unfold PX11_copyShape_56
    obtain ⟨y, rfl, hy, ey⟩ := ok.2.1.ex
    obtain ⟨t, rfl, ht, et⟩ := i32_of (i32_not_lt.mp ok.2.2.1)
    have ht3 : t ≤ 3 := (i32_le (j := 3) ht (by omega)).mp (i32_not_lt.mp ok.2.2.2)
    have et : nx (Int32.ofNat t) = t := et
    rw [et] at hj
    rw [ey] at P'
    have BB := P'.1.slot hy
    have l4 : σ.1.length = 4 := by have := P'.1.1.1; rw [List.length_set] at this; exact this
    have gy : ∀ S : SH, (σ.1.set y S).getD y [] = S := fun S => by rw [getD_set, if_pos ⟨rfl, by omega⟩]
    have BB : Blk k' (4 + 40 * y) (qtN j (slR σ x)) := by
      have e := gy (qtN j (slR σ x))
      rw [← e]; exact BB
    refine ⟨fun c => ?_, fun c => ?_⟩
    · have c := (i32_le (by omega) (by omega)).mp c
      have : j = t := by omega
      subst this
      refine csI (m11_slotAt y) (cvI H'.1 (m11_pieces H' BB) ?_)
      unfold rCopy; rw [ifC_pos ok, ifC_neg ne, et, ey]
      refine Rq.mk ?_ ⟨z, k', H', P', T'⟩ f
      show Int32.ofNat (slR σ x).length = _
      have : ∀ q, (qtN q (slR σ x)).length = (slR σ x).length := fun q => by
        induction q with
        | zero => rfl
        | succ q ih => show (List.map _ _).length = _; rw [List.length_map]; exact ih
      rw [this]
    · have c := mt (i32_le (i := t) (j := j) (by omega) (by omega)).mpr c
      refine csI (m11_slotAt y) (cvVq H'.1 (m11_turn H' BB) fun h4 q4 => ?_)
      obtain ⟨s, H4, B4, hs, f4⟩ := q4
      refine ⟨_, by omega, j + 1, _, rfl, rfl, rfl, rfl, i32_s _, by rw [et]; omega, ok, ne, H4, P'.s ?_, T', f.trans (f4.weak (by omega) (by omega))⟩
      rw [ey]
      have := P'.1.setSlot (g := sA (s, k'.2)) hy (fun i hi hd => hs i (by omega)) B4.2
      rw [show (σ.1.set y (qtN j (slR σ x)), σ.2).1.set y (qtS (qtN j (slR σ x))) = σ.1.set y (qtS (qtN j (slR σ x))) from List.set_set ..] at this
      exact this
theorem m11_loadShape (H : Mrf h cs σ ps) (hcs : ∀ c, c ∈ cs → c ≠ -1) (x : Int32) : sX11_loadShape E [aP (some 313), aI x] h (Rq (rLoad cs σ ps x).2.1 (rLoad cs σ ps x).2.2.1 (rLoad cs σ ps x).2.2.2 h (rLoad cs σ ps x).1) := by
  obtain ⟨z, k, H, P, T⟩ := H
  refine eX11_loadShape ?_
  unfold PX11_loadShape_0
  refine csI (m11_isSlot x) ⟨fun c1 => ?_, fun c1 => ?_⟩
  · have sl := ifC1 rfl c1
    obtain ⟨j, rfl, hj, ej⟩ := sl.ex
    unfold rLoad; rw [ifC_pos sl, ej]
    refine cvIq H.1 (m11_readsShape T hcs H) fun r h4 q4 => ?_
    obtain ⟨er, ⟨s', w', R4, hs, B4, -⟩, f4⟩ := q4
    obtain ⟨z4, H4, ha, hb, hl, hp⟩ := R4
    have P4 : MsK (s', k.2) σ ps := P.s (P.1.same fun i hi => hs i hi)
    refine ⟨fun c2 => ?_, fun c2 => ?_⟩
    · rw [if_pos (r01 er c2)]
      refine cvVq H4.1 (m11_note H4 P4) fun h6 q6 => ?_
      obtain ⟨pt, n, H6, P6, f6⟩ := q6
      refine csI (m11_slotAt j) (cvVq H6.1 (m11_copy H6 (a := 500) (by omega) (by omega) (by omega)) fun h8 q8 => ?_)
      obtain ⟨s, H8, h8, f8⟩ := q8
      refine (wr_iff H8.1).mpr ⟨Nat.le_of_ble_eq_true rfl, ?_⟩
      have H9 := H8.cnt n 0
      refine (rdP_iff H9.1).mpr ⟨_, rfl, H9.ld (i := 500) (by omega) ?_⟩
      have e5 : s.getD 500 0 = Int32.ofNat (rwGo cs 3 0 []).2.2.length := by
        rw [h8, if_neg (by omega)]; exact B4.2.2.1
      refine Rq.mk e5.symm ⟨z4, _, H9, ⟨?_, P6.2⟩, ⟨rfl, by simp, fun j hj => absurd hj (by simp)⟩⟩ ((f4.weak (by omega) (by omega)).trans ((f6.weak (by omega) (by omega)).trans ((f8.weak (by omega) (by omega)).trans (fr313.weak (by omega) (by omega)))))
      refine P6.1.setSlot hj (fun i hi hd => ?_) (B4.f.tr fun q hq => ?_)
      · show s.getD i 0 = _
        rw [h8, if_neg (by omega)]
      · show s.getD _ 0 = _
        rw [h8, if_pos (by omega)]
        show s'.getD _ 0 = s'.getD _ 0
        congr 1; omega
    · rw [if_neg (r00 er c2)]
      refine (rdI_iff H4.1).mpr ⟨_, rfl, ?_⟩
      rw [ha]
      exact Rq.mk rfl ⟨z4, _, H4, P4, T⟩ (f4.weak (by omega) (by omega))
  · unfold rLoad; rw [ifC_neg (ifC0 rfl c1)]
    exact Rq.mk rfl ⟨z, k, H, P, T⟩ Fr.refl
end RC
