/-! the reference's answers: slots and shapes -/
theorem in_dir {d : Int32} : inP d 0 7 ↔ Dirn d := by
  unfold inP Dirn
  rw [Int32.lt_iff_toInt_lt, Int32.lt_iff_toInt_lt, Int32.le_iff_toInt_le]
  have e7 : (7 : Int32).toInt = 7 := rfl
  have e8 : (8 : Int32).toInt = 8 := rfl
  rw [e7, e8]
  constructor
  · rintro ⟨h1, h2⟩; exact ⟨h1, by omega⟩
  · rintro ⟨h1, h2⟩; exact ⟨h1, by omega⟩
theorem in_prt {p : Int32} : inP p 0 1 ↔ Prt p := by
  unfold inP Prt
  constructor
  · rintro ⟨h1, h2⟩
    rw [Int32.lt_iff_toInt_lt] at h1 h2
    have e0 : (0 : Int32).toInt = 0 := rfl
    have e1 : (1 : Int32).toInt = 1 := rfl
    rw [e0] at h1; rw [e1] at h2
    by_cases c : p.toInt = 0
    · exact Or.inl (Int32.toInt_inj.mp (c.trans e0.symm))
    · exact Or.inr (Int32.toInt_inj.mp (show p.toInt = (1 : Int32).toInt by rw [e1]; omega))
  · rintro (rfl | rfl)
    · exact ⟨by decide, by decide⟩
    · exact ⟨by decide, by decide⟩
def RHas (σ : RV) (x i : Int32) : Prop := Slt x ∧ Pce (slR σ x) i
def REm (σ : RV) (a b : Int32) : Prop := slR σ a = [] ∨ slR σ b = []
def OkQ (f : FQ) : Prop := (0 ≤ f.1.toInt ∧ f.1.toInt < 4611686018427387904) ∧ 0 < f.2.toInt ∧ f.2.toInt < 4611686018427387904
def rPart (f : FQ) (p : Int32) : Int32 := partN f.1.toInt.toNat f.2.toInt.toNat p
noncomputable def rPieceCount (σ : RV) (x : Int32) : Int32 := ifC (Slt x) (Int32.ofNat (slR σ x).length) (-1000001)
noncomputable def rDoubleArea (σ : RV) (x i : Int32) : Int32 := ifC (RHas σ x i) (arR ((slR σ x).getD (nx i) [])) (-1000001)
noncomputable def rExtent (σ : RV) (x d : Int32) : Int32 := ifC (Slt x ∧ Dirn d) (ifC (slR σ x = []) (-1000002) (hgP (slR σ x) (dxR d) (dyR d))) (-1000001)
noncomputable def rContact (σ : RV) (a b x y : Int32) : Int32 := ifC ((Slt a ∧ Slt b) ∧ Nea x ∧ Nea y) (ifC (REm σ a b) (-1000002) (liePR (slR σ a) (slR σ b) x y)) (-1000001)
noncomputable def rGap (σ : RV) (a b x y p : Int32) : Int32 := ifC ((Slt a ∧ Slt b) ∧ (Nea x ∧ Nea y) ∧ Prt p) (ifC (REm σ a b) (-1000002) (rPart (lgP (slR σ a) (slR σ b) x y) p)) (-1000001)
noncomputable def rSlide (σ : RV) (a b x y d p : Int32) : Int32 := ifC ((Slt a ∧ Slt b) ∧ (Nea x ∧ Nea y) ∧ Dirn d ∧ Prt p) (ifC (REm σ a b) (-1000002) (if liePR (slR σ a) (slR σ b) x y = 2 then -1000002 else if 0 < (stP (slR σ a) (slR σ b) x y (dxR d) (dyR d) 0).2 then rPart (stP (slR σ a) (slR σ b) x y (dxR d) (dyR d) 0) p else -1000009)) (-1000001)
noncomputable def rItemPlace (σ : RV) (i c : Int32) : Int32 := ifC (RItm σ i ∧ Prt c) (if c = 0 then (rit σ (nx i)).2.1 else (rit σ (nx i)).2.2) (-1000001)
def rig (σ : RV) (i j : Nat) : FQ := lgP (rit σ i).1 (rit σ j).1 ((rit σ j).2.1 - (rit σ i).2.1) ((rit σ j).2.2 - (rit σ i).2.2)
noncomputable def rItemGap (σ : RV) (i j p : Int32) : Int32 := ifC (RItm σ i ∧ RItm σ j ∧ ¬ i = j ∧ Prt p) (rPart (rig σ (nx i) (nx j)) p) (-1000001)
noncomputable def rFree (σ : RV) (x : Int32) : Int32 := ifC (Slt x) (ifC (slR σ x = []) (-1000002) (Int32.ofNat ((pre (nxB (bxR (slR σ x) σ.2.2.1 σ.2.2.2.1)) (nyB (bxR (slR σ x) σ.2.2.1 σ.2.2.2.1)) 0).countP (rFB σ (slR σ x))))) (-1000001)
section RQ
variable {E : EV} {h : AH} {z : Sc} {k : MK} {cs : List Int32} {σ : RV} {ps : List RV}
theorem i64_of {x : Int64} (h0 : 0 ≤ x.toInt) (h1 : x.toInt < 4611686018427387904) : x = Int64.ofNat x.toInt.toNat := by
  apply Int64.toInt_inj.mp
  rw [i64_n (by omega)]; omega
theorem ok_part {f : FQ} (H : OkQ f) (p : Int32) : sX11_part E [aJ f.1, aJ f.2, aI p] h (kI fun r h' => r = rPart f p ∧ h' = h) := by
  obtain ⟨⟨a, b⟩, c, d⟩ := H
  have := m11_part (E := E) (h := h) (u := f.1.toInt.toNat) (v := f.2.toInt.toNat) (by omega) (by omega) (by omega) p
  rw [← i64_of a b, ← i64_of (by omega) d] at this
  exact this
theorem st_ind {SA SB : SH} {x y dx dy : Int32} {s1 : Int64} : stP SA SB x y dx dy s1 = stP SA SB x y dx dy 0 ∨ ((stP SA SB x y dx dy s1).2 = 0 ∧ (stP SA SB x y dx dy 0).2 = 0) := by
  unfold stP
  generalize pre SB.length SA.length 0 = l
  have : ∀ (l : List (Nat × Nat)) (a b : FQ), (a = b ∨ (a.2 = 0 ∧ b.2 = 0)) → l.foldl (stStep SA SB x y dx dy) a = l.foldl (stStep SA SB x y dx dy) b ∨ ((l.foldl (stStep SA SB x y dx dy) a).2 = 0 ∧ (l.foldl (stStep SA SB x y dx dy) b).2 = 0) := fun l => by
    induction l with
    | nil => intro a b h; exact h
    | cons p l ih =>
      intro a b h
      rw [List.foldl_cons, List.foldl_cons]
      refine ih _ _ ?_
      rcases h with rfl | ⟨h1, h2⟩
      · exact Or.inl rfl
      · unfold stStep
        by_cases c : (mtP (SA.getD p.1 []) (SB.getD p.2 []) x y dx dy).1 = true
        · rw [if_pos ⟨c, Or.inl h1⟩, if_pos ⟨c, Or.inl h2⟩]; exact Or.inl rfl
        · rw [if_neg fun q => c q.1, if_neg fun q => c q.1]; exact Or.inr ⟨h1, h2⟩
  exact this l _ _ (Or.inr ⟨rfl, rfl⟩)
theorem pce_in {n : Nat} (hn : n ≤ 8) {S : SH} (e : S.length = n) {i : Int32} : inP i 0 (Int32.ofNat n - 1) ↔ Pce S i := by
  rw [in_item hn, ← e]; exact Iff.rfl
theorem m11_areSlots (a b : Int32) (ad : ∃ fs, h[313]? = some (.inr (11, fs))) : sX11_areSlots E [aP (some 313), aI a, aI b] h (kI fun r h' => r = ifC (Slt a ∧ Slt b) 1 0 ∧ h' = h) := by
  refine eX11_areSlots ?_
  unfold PX11_areSlots_0
  exact csI (m11_isSlot a) ⟨fun c1 => ⟨_, rfl, (ifC_neg fun q => ifC0 rfl c1 q.1).symm, rfl⟩, fun c1 => csI (m11_isSlot b) ⟨fun c2 => ⟨_, rfl, (ifC_neg fun q => ifC0 rfl c2 q.2).symm, rfl⟩, fun c2 => ⟨_, rfl, (ifC_pos ⟨ifC1 rfl c1, ifC1 rfl c2⟩).symm, rfl⟩⟩⟩
theorem m11_hasPiece (H : MoZ h z k) (P : RsF (sA k) σ) (x i : Int32) : sX11_hasPiece E [aP (some 313), aI x, aI i] h (kI fun r h' => r = ifC (RHas σ x i) 1 0 ∧ h' = h) := by
  refine eX11_hasPiece ?_
  unfold PX11_hasPiece_0
  refine csI (m11_isSlot x) ⟨fun c1 => ⟨_, rfl, (ifC_neg fun q => ifC0 rfl c1 q.1).symm, rfl⟩, fun c1 => ?_⟩
  have sl := ifC1 rfl c1
  obtain ⟨j, rfl, hj, ej⟩ := sl.ex
  have e : slR σ (Int32.ofNat j) = σ.1.getD j [] := by unfold slR; rw [ej]
  have B := P.slot hj
  have l3 := B.2.1
  have pc := pce_in (S := slR σ (Int32.ofNat j)) (i := i) (show (σ.1.getD j []).length ≤ 8 by omega) (by rw [e])
  refine csI (m11_slotAt j) (cvI H.1 (m11_pieces H B) (csI (m11_in i 0 _) ⟨fun c2 => ⟨_, rfl, (ifC_neg fun q => ifC0 rfl c2 (pc.mpr q.2)).symm, rfl⟩, fun c2 => ⟨_, rfl, (ifC_pos ⟨sl, pc.mp (ifC1 rfl c2)⟩).symm, rfl⟩⟩))
theorem RHas.ex {x i : Int32} (H : RHas σ x i) (P : RsF (sA k) σ) : ∃ j p, x = Int32.ofNat j ∧ j < 4 ∧ nx (Int32.ofNat j) = j ∧ i = Int32.ofNat p ∧ p < (σ.1.getD j []).length ∧ nx (Int32.ofNat p) = p ∧ slR σ x = σ.1.getD j [] := by
  obtain ⟨j, rfl, hj, ej⟩ := H.1.ex
  have e : slR σ (Int32.ofNat j) = σ.1.getD j [] := by unfold slR; rw [ej]
  have pc := H.2
  rw [e] at pc
  have l3 := (P.slot hj).2.1
  obtain ⟨n, rfl, h1, h2⟩ := i32_of (i32_not_lt.mp pc.1)
  exact ⟨j, n, rfl, hj, ej, rfl, by have := mt (i32_le (i := (σ.1.getD j []).length) (j := n) (by omega) h1).mpr pc.2; omega, h2, e⟩
theorem m11_pieceCount (H : Mrf h cs σ ps) (x : Int32) : sX11_pieceCount E [aP (some 313), aI x] h (Rq cs σ ps h (rPieceCount σ x)) := by
  obtain ⟨z, k, H, P, T⟩ := H
  refine eX11_pieceCount ?_
  unfold PX11_pieceCount_0 rPieceCount
  refine csI (m11_isSlot x) ⟨fun c1 => ?_, fun c1 => ?_⟩
  · rw [ifC_neg (ifC0 rfl c1)]; exact Rq.mk rfl ⟨z, k, H, P, T⟩ Fr.refl
  · have sl := ifC1 rfl c1
    obtain ⟨j, rfl, hj, ej⟩ := sl.ex
    unfold slR; rw [ifC_pos sl, ej]
    exact csI (m11_slotAt j) (cvI H.1 (m11_pieces H (P.1.slot hj)) (Rq.mk rfl ⟨z, k, H, P, T⟩ Fr.refl))
theorem m11_doubleArea (H : Mrf h cs σ ps) (x i : Int32) : sX11_doubleArea E [aP (some 313), aI x, aI i] h (Rq cs σ ps h (rDoubleArea σ x i)) := by
  obtain ⟨z, k, H, P, T⟩ := H
  refine eX11_doubleArea ?_
  unfold PX11_doubleArea_0 rDoubleArea
  refine cvI H.1 (m11_hasPiece H P.1 x i) ⟨fun c1 => ?_, fun c1 => ?_⟩
  · rw [ifC_neg (ifC0 rfl c1)]; exact Rq.mk rfl ⟨z, k, H, P, T⟩ Fr.refl
  · have hh := ifC1 rfl c1
    obtain ⟨j, p, rfl, hj, ej, rfl, hp, ep, e⟩ := hh.ex P.1
    rw [ifC_pos hh, e, ep]
    exact csI (m11_slotAt j) (cvI H.1 (m11_area H (P.1.slot hj) hp) (Rq.mk rfl ⟨z, k, H, P, T⟩ Fr.refl))
theorem m11_extent (H : Mrf h cs σ ps) (x d : Int32) : sX11_extent E [aP (some 313), aI x, aI d] h (Rq cs σ ps h (rExtent σ x d)) := by
  obtain ⟨z, k, H, P, T⟩ := H
  refine eX11_extent ?_
  unfold PX11_extent_0
  have bad : ¬ (Slt x ∧ Dirn d) → Rq cs σ ps h (rExtent σ x d) (some (aI (-1000001))) h := fun q => by
    unfold rExtent; rw [ifC_neg q]; exact Rq.mk rfl ⟨z, k, H, P, T⟩ Fr.refl
  refine csI (m11_isSlot x) ⟨fun c1 => bad fun q => ifC0 rfl c1 q.1, fun c1 => csI (m11_in d 0 7) ⟨fun c2 => ?_, fun c2 => bad fun q => ifC0 rfl c2 (in_dir.mpr q.2)⟩⟩
  have ok : Slt x ∧ Dirn d := ⟨ifC1 rfl c1, in_dir.mp (ifC1 rfl c2)⟩
  obtain ⟨j, rfl, hj, ej⟩ := ok.1.ex
  unfold rExtent slR; rw [ifC_pos ok, ej]
  refine cvI H.1 (m11_isEmpty H (P.1.slot hj)) ⟨fun c3 => ?_, fun c3 => ?_⟩
  · rw [ifC_neg (r00 rfl c3)]
    exact csI (m11_slotAt j) (csI (m11_dirX d) (csI (m11_dirY d) (cvI H.1 (m11_highest H (P.1.slot hj) _ _) (Rq.mk rfl ⟨z, k, H, P, T⟩ Fr.refl))))
  · rw [ifC_pos (r01 rfl c3)]; exact Rq.mk rfl ⟨z, k, H, P, T⟩ Fr.refl
theorem m11_itemCount (H : Mrf h cs σ ps) : sX11_itemCount E [aP (some 313)] h (Rq cs σ ps h (Int32.ofNat σ.2.1.length)) := by
  obtain ⟨z, k, H, P, T⟩ := H
  refine eX11_itemCount ?_
  unfold PX11_itemCount_0
  refine (rdP_iff H.1).mpr ⟨_, rfl, H.ld (i := 3) (by omega) ?_⟩
  exact Rq.mk P.1.2.2.1.symm ⟨z, k, H, P, T⟩ Fr.refl
theorem m11_itemPlace (H : Mrf h cs σ ps) (i c : Int32) : sX11_itemPlace E [aP (some 313), aI i, aI c] h (Rq cs σ ps h (rItemPlace σ i c)) := by
  obtain ⟨z, k, H, P, T⟩ := H
  refine eX11_itemPlace ?_
  unfold PX11_itemPlace_0
  have hn := P.1.1.2
  have bad : ¬ (RItm σ i ∧ Prt c) → Rq cs σ ps h (rItemPlace σ i c) (some (aI (-1000001))) h := fun q => by
    unfold rItemPlace; rw [ifC_neg q]; exact Rq.mk rfl ⟨z, k, H, P, T⟩ Fr.refl
  refine cvI H.1 (m11_isItem H P.1 i) ⟨fun c1 => bad fun q => ifC0 rfl c1 q.1, fun c1 => csI (m11_in c 0 1) ⟨fun c2 => ?_, fun c2 => bad fun q => ifC0 rfl c2 (in_prt.mpr q.2)⟩⟩
  have ok : RItm σ i ∧ Prt c := ⟨ifC1 rfl c1, in_prt.mp (ifC1 rfl c2)⟩
  obtain ⟨j, rfl, hj, ej⟩ := ok.1.ex hn
  obtain ⟨xa, ya⟩ := P.1.ix hj
  unfold rItemPlace; rw [ifC_pos ok, ej]
  refine ⟨fun c3 => ?_, fun c3 => ?_⟩
  · rw [if_neg c3]; exact cvI H.1 (m11_itemY H (by omega)) (Rq.mk ya.symm ⟨z, k, H, P, T⟩ Fr.refl)
  · rw [if_pos c3]; exact cvI H.1 (m11_itemX H (by omega)) (Rq.mk xa.symm ⟨z, k, H, P, T⟩ Fr.refl)
theorem m11_contact (H : Mrf h cs σ ps) (a b x y : Int32) : sX11_contact E [aP (some 313), aI a, aI b, aI x, aI y] h (Rq cs σ ps h (rContact σ a b x y)) := by
  obtain ⟨z, k, H, P, T⟩ := H
  refine eX11_contact ?_
  unfold PX11_contact_0
  have bad : ¬ ((Slt a ∧ Slt b) ∧ Nea x ∧ Nea y) → Rq cs σ ps h (rContact σ a b x y) (some (aI (-1000001))) h := fun q => by
    unfold rContact; rw [ifC_neg q]; exact Rq.mk rfl ⟨z, k, H, P, T⟩ Fr.refl
  refine cvI H.1 (m11_areSlots a b ⟨_, H.1⟩) ⟨fun c1 => bad fun q => ifC0 rfl c1 q.1, fun c1 => csI (m11_isPlace x y) ⟨fun c2 => ?_, fun c2 => bad fun q => ifC0 rfl c2 q.2⟩⟩
  have ok : (Slt a ∧ Slt b) ∧ Nea x ∧ Nea y := ⟨ifC1 rfl c1, ifC1 rfl c2⟩
  obtain ⟨i, rfl, hi, ei⟩ := ok.1.1.ex
  obtain ⟨j, rfl, hj, ej⟩ := ok.1.2.ex
  unfold rContact REm slR; rw [ifC_pos ok, ei, ej]
  refine cvI H.1 (m11_isEmpty H (P.1.slot hi)) ⟨fun c3 => ?_, fun c3 => cvI H.1 (m11_isEmpty H (P.1.slot hj)) ⟨fun c4 => ?_, fun c4 => ?_⟩⟩
  · rw [ifC_pos (Or.inl (r01 rfl c3))]; exact Rq.mk rfl ⟨z, k, H, P, T⟩ Fr.refl
  · rw [ifC_neg fun q => q.elim (r00 rfl c3) (r00 rfl c4)]
    refine csI (m11_slotAt i) (csI (m11_slotAt j) (cvIq H.1 (m11_lies H (P.1.slot hi) (P.1.slot hj) x y) fun r h' q => ?_))
    obtain ⟨e, ⟨n1, n2, H'⟩, f⟩ := q
    exact Rq.mk e.symm ⟨_, k, H', P, T⟩ (f.weak (by omega) (by omega))
  · rw [ifC_pos (Or.inr (r01 rfl c4))]; exact Rq.mk rfl ⟨z, k, H, P, T⟩ Fr.refl
theorem m11_squaredGap (H : Mrf h cs σ ps) (a b x y p : Int32) (ok : Slt a → Slt b → Nea x → Nea y → ¬ REm σ a b → OkQ (lgP (slR σ a) (slR σ b) x y)) : sX11_squaredGap E [aP (some 313), aI a, aI b, aI x, aI y, aI p] h (Rq cs σ ps h (rGap σ a b x y p)) := by
  obtain ⟨z, k, H, P, T⟩ := H
  refine eX11_squaredGap ?_
  unfold PX11_squaredGap_0
  have bad : ¬ ((Slt a ∧ Slt b) ∧ (Nea x ∧ Nea y) ∧ Prt p) → Rq cs σ ps h (rGap σ a b x y p) (some (aI (-1000001))) h := fun q => by
    unfold rGap; rw [ifC_neg q]; exact Rq.mk rfl ⟨z, k, H, P, T⟩ Fr.refl
  refine cvI H.1 (m11_areSlots a b ⟨_, H.1⟩) ⟨fun c1 => bad fun q => ifC0 rfl c1 q.1, fun c1 => csI (m11_isPlace x y) ⟨fun c2 => bad fun q => ifC0 rfl c2 q.2.1, fun c2 => csI (m11_in p 0 1) ⟨fun c3 => ?_, fun c3 => bad fun q => ifC0 rfl c3 (in_prt.mpr q.2.2)⟩⟩⟩
  have oo : (Slt a ∧ Slt b) ∧ (Nea x ∧ Nea y) ∧ Prt p := ⟨ifC1 rfl c1, ifC1 rfl c2, in_prt.mp (ifC1 rfl c3)⟩
  have ok := ok oo.1.1 oo.1.2 oo.2.1.1 oo.2.1.2
  obtain ⟨i, rfl, hi, ei⟩ := oo.1.1.ex
  obtain ⟨j, rfl, hj, ej⟩ := oo.1.2.ex
  unfold rGap
  unfold REm slR at ok ⊢
  rw [ei, ej] at ok
  rw [ifC_pos oo, ei, ej]
  refine cvI H.1 (m11_isEmpty H (P.1.slot hi)) ⟨fun c3 => ?_, fun c3 => cvI H.1 (m11_isEmpty H (P.1.slot hj)) ⟨fun c4 => ?_, fun c4 => ?_⟩⟩
  · rw [ifC_pos (Or.inl (r01 rfl c3))]; exact Rq.mk rfl ⟨z, k, H, P, T⟩ Fr.refl
  · have ne : ¬ (σ.1.getD i [] = [] ∨ σ.1.getD j [] = []) := fun q => q.elim (r00 rfl c3) (r00 rfl c4)
    rw [ifC_neg ne]
    refine csI (m11_slotAt i) (csI (m11_slotAt j) (cvVq H.1 (m11_gap H (P.1.slot hi) (P.1.slot hj) x y) fun h' q => ?_))
    obtain ⟨⟨z', H', ez⟩, f⟩ := q
    refine (rdJ_iff H'.1).mpr ⟨_, rfl, (rdJ_iff H'.1).mpr ⟨_, rfl, ?_⟩⟩
    have ok := ok ne
    rw [← ez] at ok ⊢
    exact csI (ok_part ok p) (Rq.mk rfl ⟨_, k, H', P, T⟩ (f.weak (by omega) (by omega)))
  · rw [ifC_pos (Or.inr (r01 rfl c4))]; exact Rq.mk rfl ⟨z, k, H, P, T⟩ Fr.refl
end RQ
