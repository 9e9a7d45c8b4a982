/-! the reference's answers: slide, gaps of items, free places -/
def rcpStep (σ : RV) (s : Int32 × FQ) (ij : Nat × Nat) : Int32 × FQ := if s.1 = -1000009 ∨ (rig σ ij.1 ij.2).1 * s.2.2 < s.2.1 * (rig σ ij.1 ij.2).2 then (10 * Int32.ofNat ij.1 + Int32.ofNat ij.2, rig σ ij.1 ij.2) else s
def rcpGo (σ : RV) (i j : Nat) : Int32 × FQ := (pr2 σ.2.1.length i j).foldl (rcpStep σ) (-1000009, (0, 1))
def rClosest (σ : RV) : Int32 := (rcpGo σ σ.2.1.length (σ.2.1.length + 1)).1
section RQ2
variable {E : EV} {h : AH} {z : Sc} {k : MK} {cs : List Int32} {σ : RV} {ps : List RV}
theorem m11_slide (H : Mrf h cs σ ps) (a b x y d p : Int32) (ok : Slt a → Slt b → Nea x → Nea y → ¬ REm σ a b → ¬ liePR (slR σ a) (slR σ b) x y = 2 → Dirn d → 0 < (stP (slR σ a) (slR σ b) x y (dxR d) (dyR d) 0).2 → OkQ (stP (slR σ a) (slR σ b) x y (dxR d) (dyR d) 0)) : sX11_slide E [aP (some 313), aI a, aI b, aI x, aI y, aI d, aI p] h (Rq cs σ ps h (rSlide σ a b x y d p)) := by
  obtain ⟨z, k, H, P, T⟩ := H
  refine eX11_slide ?_
  unfold PX11_slide_0
  have bad : ¬ ((Slt a ∧ Slt b) ∧ (Nea x ∧ Nea y) ∧ Dirn d ∧ Prt p) → Rq cs σ ps h (rSlide σ a b x y d p) (some (aI (-1000001))) h := fun q => by
    unfold rSlide; rw [ifC_neg q]; exact Rq.mk rfl ⟨z, k, H, P, T⟩ Fr.refl
  refine cvI H.1 (m11_areSlots a b ⟨_, H.1⟩) ⟨fun c1 => bad fun q => ifC0 rfl c1 q.1, fun c1 => csI (m11_isPlace x y) ⟨fun c2 => bad fun q => ifC0 rfl c2 q.2.1, fun c2 => csI (m11_in d 0 7) ⟨fun c3 => bad fun q => ifC0 rfl c3 (in_dir.mpr q.2.2.1), fun c3 => csI (m11_in p 0 1) ⟨fun c4 => ?_, fun c4 => bad fun q => ifC0 rfl c4 (in_prt.mpr q.2.2.2)⟩⟩⟩⟩
  have oo : (Slt a ∧ Slt b) ∧ (Nea x ∧ Nea y) ∧ Dirn d ∧ Prt p := ⟨ifC1 rfl c1, ifC1 rfl c2, in_dir.mp (ifC1 rfl c3), in_prt.mp (ifC1 rfl c4)⟩
  have ok := ok oo.1.1 oo.1.2 oo.2.1.1 oo.2.1.2
  obtain ⟨i, rfl, hi, ei⟩ := oo.1.1.ex
  obtain ⟨j, rfl, hj, ej⟩ := oo.1.2.ex
  unfold rSlide
  unfold REm slR at ok ⊢
  rw [ei, ej] at ok
  rw [ifC_pos oo, ei, ej]
  refine cvI H.1 (m11_isEmpty H (P.1.slot hi)) ⟨fun c5 => ?_, fun c5 => cvI H.1 (m11_isEmpty H (P.1.slot hj)) ⟨fun c6 => ?_, fun c6 => ?_⟩⟩
  · rw [ifC_pos (Or.inl (r01 rfl c5))]; exact Rq.mk rfl ⟨z, k, H, P, T⟩ Fr.refl
  · rw [ifC_pos (Or.inr (r01 rfl c6))]; exact Rq.mk rfl ⟨z, k, H, P, T⟩ Fr.refl
  · have ne : ¬ (σ.1.getD i [] = [] ∨ σ.1.getD j [] = []) := fun q => q.elim (r00 rfl c5) (r00 rfl c6)
    rw [ifC_neg ne]
    refine csI (m11_slotAt i) (csI (m11_slotAt j) (cvIq H.1 (m11_lies H (P.1.slot hi) (P.1.slot hj) x y) fun r h' q => ?_))
    obtain ⟨e, ⟨n1, n2, H'⟩, f⟩ := q
    refine ⟨fun c7 => ?_, fun c7 => ?_⟩
    · have nl : ¬ liePR (σ.1.getD i []) (σ.1.getD j []) x y = 2 := fun q => c7 (e.trans q)
      rw [if_neg nl]
      refine csI (m11_slotAt i) (csI (m11_slotAt j) (cvIq H'.1 (m11_stops H' (P.1.slot hi) (P.1.slot hj) x y d) fun r2 h2 q2 => ?_))
      obtain ⟨e2, ⟨z2, H2, ez⟩, f2⟩ := q2
      have fl : Fr 313 323 h h2 := (f.trans f2).weak (by omega) (by omega)
      have si := st_ind (SA := σ.1.getD i []) (SB := σ.1.getD j []) (x := x) (y := y) (dx := dxR d) (dy := dyR d) (s1 := (zN z n1 n2).2.2.2.2.2.2.1)
      refine ⟨fun c8 => ?_, fun c8 => ?_⟩
      · have n0 : ¬ 0 < (stP (σ.1.getD i []) (σ.1.getD j []) x y (dxR d) (dyR d) (zN z n1 n2).2.2.2.2.2.2.1).2 := r00 e2 c8
        have n0' : ¬ 0 < (stP (σ.1.getD i []) (σ.1.getD j []) x y (dxR d) (dyR d) 0).2 := by
          rcases si with si | si
          · rw [← si]; exact n0
          · rw [si.2]; decide
        rw [if_neg n0']
        exact Rq.mk rfl ⟨_, k, H2, P, T⟩ fl
      · have n1' : 0 < (stP (σ.1.getD i []) (σ.1.getD j []) x y (dxR d) (dyR d) (zN z n1 n2).2.2.2.2.2.2.1).2 := r01 e2 c8
        have es : stP (σ.1.getD i []) (σ.1.getD j []) x y (dxR d) (dyR d) (zN z n1 n2).2.2.2.2.2.2.1 = stP (σ.1.getD i []) (σ.1.getD j []) x y (dxR d) (dyR d) 0 := by
          rcases si with si | si
          · exact si
          · rw [si.1] at n1'; exact absurd n1' (by decide)
        rw [es] at n1' ez
        rw [if_pos n1']
        have ok := ok ne nl oo.2.2.1 n1'
        refine (rdJ_iff H2.1).mpr ⟨_, rfl, (rdJ_iff H2.1).mpr ⟨_, rfl, ?_⟩⟩
        rw [← ez] at ok ⊢
        exact csI (ok_part ok p) (Rq.mk rfl ⟨_, k, H2, P, T⟩ fl)
    · rw [if_pos (e.symm.trans c7)]
      exact Rq.mk rfl ⟨_, k, H', P, T⟩ (f.weak (by omega) (by omega))
theorem m11_itemGapOf (H : MoZ h z k) (P : RsF (sA k) σ) {i j : Nat} (hi : i < σ.2.1.length) (hj : j < σ.2.1.length) : sX11_laysItemGap E [aP (some 313), aI (Int32.ofNat i), aI (Int32.ofNat j)] h (kV fun h' => (∃ z', MoZ h' z' k ∧ (z'.2.2.1, z'.2.2.2.1) = rig σ i j) ∧ Fr 313 314 h h') := by
  refine eX11_laysItemGap ?_
  unfold PX11_laysItemGap_0
  have hn := P.1.2
  obtain ⟨xi, yi⟩ := P.ix hi
  obtain ⟨xj, yj⟩ := P.ix hj
  refine csI (m11_itemShape i) (csI (m11_itemShape j) (cvI H.1 (m11_itemX H (by omega)) (cvI H.1 (m11_itemX H (by omega)) (cvI H.1 (m11_itemY H (by omega)) (cvI H.1 (m11_itemY H (by omega)) ?_)))))
  rw [xi, yi, xj, yj]
  refine cvVq H.1 (m11_gap H (P.item hi) (P.item hj) _ _) fun h' q => ⟨rfl, q⟩
theorem m11_itemGap (H : Mrf h cs σ ps) (a b p : Int32) (ok : RItm σ a → RItm σ b → ¬ a = b → OkQ (rig σ (nx a) (nx b))) : sX11_itemGap E [aP (some 313), aI a, aI b, aI p] h (Rq cs σ ps h (rItemGap σ a b p)) := by
  obtain ⟨z, k, H, P, T⟩ := H
  refine eX11_itemGap ?_
  unfold PX11_itemGap_0
  have hn := P.1.1.2
  have bad : ¬ (RItm σ a ∧ RItm σ b ∧ ¬ a = b ∧ Prt p) → Rq cs σ ps h (rItemGap σ a b p) (some (aI (-1000001))) h := fun q => by
    unfold rItemGap; rw [ifC_neg q]; exact Rq.mk rfl ⟨z, k, H, P, T⟩ Fr.refl
  refine cvI H.1 (m11_isItem H P.1 a) ⟨fun c1 => bad fun q => ifC0 rfl c1 q.1, fun c1 => cvI H.1 (m11_isItem H P.1 b) ⟨fun c2 => bad fun q => ifC0 rfl c2 q.2.1, fun c2 => ⟨fun c3 => bad fun q => q.2.2.1 c3, fun c3 => csI (m11_in p 0 1) ⟨fun c4 => ?_, fun c4 => bad fun q => ifC0 rfl c4 (in_prt.mpr q.2.2.2)⟩⟩⟩⟩
  have oo : RItm σ a ∧ RItm σ b ∧ ¬ a = b ∧ Prt p := ⟨ifC1 rfl c1, ifC1 rfl c2, c3, in_prt.mp (ifC1 rfl c4)⟩
  have ok := ok oo.1 oo.2.1 c3
  unfold rItemGap; rw [ifC_pos oo]
  obtain ⟨i, rfl, hi, ei⟩ := oo.1.ex hn
  obtain ⟨j, rfl, hj, ej⟩ := oo.2.1.ex hn
  rw [ei, ej] at ok ⊢
  refine cvVq H.1 (m11_itemGapOf H P.1 hi hj) fun h' q => ?_
  obtain ⟨⟨z', H', ez⟩, f⟩ := q
  refine (rdJ_iff H'.1).mpr ⟨_, rfl, (rdJ_iff H'.1).mpr ⟨_, rfl, ?_⟩⟩
  rw [← ez] at ok ⊢
  exact csI (ok_part ok p) (Rq.mk rfl ⟨_, k, H', P, T⟩ (f.weak (by omega) (by omega)))
theorem m11_freePlaces (H : Mrf h cs σ ps) (x : Int32) (hb : Slt x → ¬ slR σ x = [] → SmB (bxR (slR σ x) σ.2.2.1 σ.2.2.2.1)) : sX11_freePlaces E [aP (some 313), aI x] h (Rq cs σ ps h (rFree σ x)) := by
  obtain ⟨z, k, H, P, T⟩ := H
  have key : ∀ (b : Nat) (S : SH), Blk k b S → SmB (bxR S σ.2.2.1 σ.2.2.2.1) → rFree σ x = Int32.ofNat ((pre (nxB (bxR S σ.2.2.1 σ.2.2.2.1)) (nyB (bxR S σ.2.2.1 σ.2.2.2.1)) 0).countP (rFB σ S)) → Slt x ∧ ¬ slR σ x = [] → x = Int32.ofNat ((b - 4) / 40) ∧ 4 + 40 * ((b - 4) / 40) = b ∧ (b - 4) / 40 < 4 → sX11_freePlaces E [aP (some 313), aI x] h (Rq cs σ ps h (rFree σ x)) := fun b S B sb hr hx he => by
    obtain ⟨b1, b2, b3, b4, b5, b6, b7, b8⟩ := sb
    have hF : ∀ i j, rFB σ S (i, j) = rFit σ S ((bxR S σ.2.2.1 σ.2.2.2.1).1 + Int32.ofNat j) ((bxR S σ.2.2.1 σ.2.2.2.1).2.1 + Int32.ofNat i) (-1000009) := fun _ _ => rfl
    have e1 : (bxR S σ.2.2.1 σ.2.2.2.1).1 = hgP S (-1) 0 := rfl
    have e2 : (bxR S σ.2.2.1 σ.2.2.2.1).2.1 = hgP S 0 (-1) := rfl
    have e3 : σ.2.2.1 - hgP S 1 0 = (bxR S σ.2.2.1 σ.2.2.2.1).2.2.1 := rfl
    have e4 : σ.2.2.2.1 - hgP S 0 1 = (bxR S σ.2.2.1 σ.2.2.2.1).2.2.2 := rfl
    generalize bxR S σ.2.2.1 σ.2.2.2.1 = bx at *
    have ex : nxB bx = (bx.2.2.1.toInt - bx.1.toInt + 1).toNat := rfl
    have ey : nyB bx = (bx.2.2.2.toInt - bx.2.1.toInt + 1).toNat := rfl
    refine uX11_freePlaces (fun m h' l0 l2 l3 l4 => ∃ i n1 n2, m = (nyB bx - i) * 100000 ∧ i ≤ nyB bx ∧ l0 = some 313 ∧ l2 = Int32.ofNat b ∧ l4 = bx.2.1 + Int32.ofNat i ∧ l3 = Int32.ofNat ((pre (nxB bx) i 0).countP (rFB σ S)) ∧ MoZ h' (zN z n1 n2) k ∧ Fr 313 314 h h')
      (fun m h' l0 l2 l3 l4 l5 => ∃ i j n1 n2, m = (nyB bx - i) * 100000 - 1 - j ∧ i < nyB bx ∧ j ≤ nxB bx ∧ l0 = some 313 ∧ l2 = Int32.ofNat b ∧ l4 = bx.2.1 + Int32.ofNat i ∧ l5 = bx.1 + Int32.ofNat j ∧ l3 = Int32.ofNat ((pre (nxB bx) i j).countP (rFB σ S)) ∧ MoZ h' (zN z n1 n2) k ∧ Fr 313 314 h h') ?_ ?_ ?_
    · unfold PX11_freePlaces_0
      refine csI (m11_isSlot x) ⟨fun c1 => ?_, fun c1 => absurd hx.1 (ifC0 rfl c1)⟩
      have BB := P.1.slot he.2.2
      have e0 : slR σ x = σ.1.getD ((b - 4) / 40) [] := by
        obtain ⟨j, hj, hj4, ej⟩ := hx.1.ex
        unfold slR; rw [hj, ej]
        have : Int32.ofNat j = Int32.ofNat ((b - 4) / 40) := hj.symm.trans he.1
        rw [i32_inj (by omega) (by omega) this]
      have em := m11_isEmpty (E := E) H BB
      rw [← he.1] at em
      refine cvI H.1 em ⟨fun c3 => ?_, fun c3 => absurd (e0.trans (r01 rfl c3)) hx.2⟩
      have sa := m11_slotAt (E := E) (h := h) ((b - 4) / 40)
      rw [← he.1, he.2.1] at sa
      refine csI sa (cvI H.1 (m11_highest H B 0 (-1)) ?_)
      rw [← e2]
      exact ⟨_, 0, z.1, z.2.1, rfl, Nat.zero_le _, rfl, rfl, i32_a0, rfl, H, Fr.refl⟩
    · rintro m h' l0 l2 l3 l4 ⟨i, n1, n2, rfl, hi, rfl, rfl, rfl, rfl, H', f⟩
      unfold PX11_freePlaces_37
      have rl := row_lt (k := i) b3 b4 b7 b8 (by omega)
      refine (rdP_iff H'.1).mpr ⟨_, rfl, H'.ld (i := 1) (by omega) ?_⟩
      rw [P.1.2.1.2.1]
      refine cvI H'.1 (m11_highest H' B 0 1) ?_
      rw [e4]
      refine ⟨fun c => ?_, fun c => ?_⟩
      · have hii := rl.mp c
        rw [← ey] at hii
        subst hii
        exact Rq.mk hr ⟨_, k, H', P, T⟩ (f.weak (by omega) (by omega))
      · have hii : i < nyB bx := by have := mt rl.mpr c; omega
        refine cvI H'.1 (m11_highest H' B (-1) 0) ?_
        rw [← e1]
        exact ⟨_, by omega, i, 0, n1, n2, rfl, hii, Nat.zero_le _, rfl, rfl, rfl, i32_a0, rfl, H', f⟩
    · rintro m h' l0 l2 l3 l4 l5 ⟨i, j, n1, n2, rfl, hi, hj, rfl, rfl, rfl, rfl, rfl, H', f⟩
      unfold PX11_freePlaces_65
      have rl := row_lt (k := j) b1 b2 b5 b6 (by omega)
      refine (rdP_iff H'.1).mpr ⟨_, rfl, H'.ld (i := 0) (by omega) ?_⟩
      rw [P.1.2.1.1]
      refine cvI H'.1 (m11_highest H' B 1 0) ?_
      rw [e3]
      refine ⟨fun c => ?_, fun c => ?_⟩
      · have hjj := rl.mp c
        rw [← ex] at hjj
        subst hjj
        exact ⟨(nyB bx - (i + 1)) * 100000, by omega, i + 1, n1, n2, rfl, hi, rfl, rfl, i32_sa, by rw [← pre_row], H', f⟩
      · have hjj : j < nxB bx := by have := mt rl.mpr c; omega
        refine cvIq H'.1 (m11_fits H' P.1 B _ _ _) fun r h6 q6 => ?_
        obtain ⟨er, ⟨m1, m2, H6⟩, f6⟩ := q6
        refine ⟨fun c2 => ?_, fun c2 => ?_⟩ <;> unfold PX11_freePlaces_104
        · have hf : rFB σ S (i, j) = false := by rw [hF]; exact bI0.mp (er.symm.trans c2)
          rintro _ rfl
          refine ⟨(nyB bx - i) * 100000 - 1 - (j + 1), by omega, i, j + 1, m1, m2, rfl, hi, hjj, rfl, rfl, rfl, i32_sa, ?_, H6, f.trans f6⟩
          rw [cnt_succ, hf, if_neg Bool.false_ne_true, Int32.add_zero]; rfl
        · have hf : rFB σ S (i, j) = true := by rw [hF]; exact bI_true fun q => c2 (er.trans q)
          rintro _ rfl
          refine ⟨(nyB bx - i) * 100000 - 1 - (j + 1), by omega, i, j + 1, m1, m2, rfl, hi, hjj, rfl, rfl, rfl, i32_sa, ?_, H6, f.trans f6⟩
          rw [cnt_succ, hf, if_pos rfl, i32_s]
  by_cases c1 : Slt x
  · by_cases c2 : slR σ x = []
    · refine uX11_freePlaces (fun _ _ _ _ _ _ => False) (fun _ _ _ _ _ _ _ => False) ?_ (fun _ _ _ _ _ _ q => q.elim) (fun _ _ _ _ _ _ _ q => q.elim)
      unfold PX11_freePlaces_0
      refine csI (m11_isSlot x) ⟨fun _ => ?_, fun c3 => absurd c1 (ifC0 rfl c3)⟩
      obtain ⟨j, rfl, hj, ej⟩ := c1.ex
      have e0 : slR σ (Int32.ofNat j) = σ.1.getD j [] := by unfold slR; rw [ej]
      refine cvI H.1 (m11_isEmpty H (P.1.slot hj)) ⟨fun c3 => absurd (e0.symm.trans c2) (r00 rfl c3), fun _ => ?_⟩
      unfold rFree; rw [ifC_pos c1, ifC_pos c2]
      exact Rq.mk rfl ⟨z, k, H, P, T⟩ Fr.refl
    · have hb := hb c1 c2
      have c1' := c1
      obtain ⟨j, rfl, hj, ej⟩ := c1.ex
      have e0 : slR σ (Int32.ofNat j) = σ.1.getD j [] := by unfold slR; rw [ej]
      refine key (4 + 40 * j) (slR σ (Int32.ofNat j)) (by rw [e0]; exact P.1.slot hj) hb ?_ ⟨c1', c2⟩ ⟨by congr 1; omega, by omega, by omega⟩
      unfold rFree; rw [ifC_pos c1', ifC_neg c2]
  · refine uX11_freePlaces (fun _ _ _ _ _ _ => False) (fun _ _ _ _ _ _ _ => False) ?_ (fun _ _ _ _ _ _ q => q.elim) (fun _ _ _ _ _ _ _ q => q.elim)
    unfold PX11_freePlaces_0
    refine csI (m11_isSlot x) ⟨fun c3 => absurd (ifC1 rfl c3) c1, fun _ => ?_⟩
    unfold rFree; rw [ifC_neg c1]
    exact Rq.mk rfl ⟨z, k, H, P, T⟩ Fr.refl
end RQ2
