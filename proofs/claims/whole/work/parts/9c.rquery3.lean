/-! the reference's answers on items -/
def ritC (σ : RV) (k : Nat) (x y : Int32) : Bool := (List.range (rit σ k).1.length).any fun i => inR ((rit σ k).1.getD i []) (x - (rit σ k).2.1) (y - (rit σ k).2.2)
noncomputable def rItemAt (σ : RV) (x y : Int32) : Int32 := ifC (Nea x ∧ Nea y) (match (List.range σ.2.1.length).find? (fun k => ritC σ k x y) with | none => -1000009 | some k => Int32.ofNat k) (-1000001)
def rpkP (σ : RV) (k j : Nat) (s : Int32) : Int32 := (List.range j).foldl (fun s i => s + arR ((rit σ k).1.getD i [])) s
def rPacked (σ : RV) (n : Nat) : Int32 := (List.range n).foldl (fun s k => rpkP σ k (rit σ k).1.length s) 0
def rsgn (s : Int32) : Int32 := if (2 : Int32) ≤ s then 1 else -1
def rbv (σ : RV) (s : Int32) (k : Nat) : Int32 := if s - s / 2 * 2 = 0 then hgP (rit σ k).1 (rsgn s) 0 + rsgn s * (rit σ k).2.1 else hgP (rit σ k).1 0 (rsgn s) + rsgn s * (rit σ k).2.2
def rbf (σ : RV) (s : Int32) (n : Nat) : Int32 := (List.range n).foldl (fun m k => upM m (rbv σ s k)) (-100000)
noncomputable def rBB (σ : RV) (s : Int32) : Int32 := ifC (inP s 0 3) (if σ.2.1.length = 0 then -1000009 else rsgn s * rbf σ s σ.2.1.length) (-1000001)
def rtcA (σ : RV) (a b : Nat) (s : Int32) : Int32 := (List.range b).foldl (fun s b => s + if liePR (rit σ a).1 (rit σ b).1 ((rit σ b).2.1 - (rit σ a).2.1) ((rit σ b).2.2 - (rit σ a).2.2) = 1 then 1 else 0) s
def rTouch (σ : RV) (n : Nat) : Int32 := (List.range n).foldl (fun s a => rtcA σ a a s) 0
section RQ3
variable {E : EV} {h : AH} {z : Sc} {k : MK} {cs : List Int32} {σ : RV} {ps : List RV}
theorem fold_s {α : Type} {f : α → Nat → α} {n : Nat} {s : α} : (List.range (n + 1)).foldl f s = f ((List.range n).foldl f s) n := by
  rw [List.range_succ, List.foldl_append]; rfl
theorem find_no {p : Nat → Bool} {n : Nat} (h : (List.range n).find? p = none) (h2 : p n = false) : (List.range (n + 1)).find? p = none := by
  rw [List.range_succ, List.find?_append, h, List.find?_cons_of_neg (by rw [h2]; decide)]; rfl
theorem find_yes {p : Nat → Bool} {n N : Nat} (h : (List.range n).find? p = none) (h2 : p n = true) (hN : n < N) : (List.range N).find? p = some n := by
  obtain ⟨r, er⟩ : ∃ r, List.range N = List.range n ++ n :: r := by
    refine ⟨(List.range N).drop (n + 1), ?_⟩
    have e := (List.take_append_drop n (List.range N)).symm
    rw [List.take_range, Nat.min_eq_left (by omega), List.drop_eq_getElem_cons (by rw [List.length_range]; exact hN), List.getElem_range] at e
    exact e
  rw [er, List.find?_append, h, List.find?_cons_of_pos h2]; rfl
theorem m11_itemAt (H : Mrf h cs σ ps) (x y : Int32) : sX11_itemAt E [aP (some 313), aI x, aI y] h (Rq cs σ ps h (rItemAt σ x y)) := by
  obtain ⟨z, k, H, P, T⟩ := H
  have hn := P.1.1.2
  refine uX11_itemAt (fun m h' l0 l1 l2 l3 => ∃ i, m = (20 - i) * 100 ∧ h' = h ∧ l0 = some 313 ∧ l1 = x ∧ l2 = y ∧ l3 = Int32.ofNat i ∧ i ≤ σ.2.1.length ∧ (Nea x ∧ Nea y) ∧ (List.range i).find? (fun k => ritC σ k x y) = none) (fun m h' l0 l1 l2 l3 l4 => ∃ i j, m = (20 - i) * 100 - 1 - j ∧ h' = h ∧ l0 = some 313 ∧ l1 = x ∧ l2 = y ∧ l3 = Int32.ofNat i ∧ l4 = Int32.ofNat j ∧ i < σ.2.1.length ∧ j ≤ (rit σ i).1.length ∧ (Nea x ∧ Nea y) ∧ (List.range i).find? (fun k => ritC σ k x y) = none ∧ (List.range j).any (fun q => inR ((rit σ i).1.getD q []) (x - (rit σ i).2.1) (y - (rit σ i).2.2)) = false) ?_ ?_ ?_
  · unfold PX11_itemAt_0
    refine csI (m11_isPlace x y) ⟨fun c1 => ⟨_, 0, rfl, rfl, rfl, rfl, rfl, rfl, Nat.zero_le _, ifC1 rfl c1, rfl⟩, fun c1 => ?_⟩
    unfold rItemAt; rw [ifC_neg (ifC0 rfl c1)]
    exact Rq.mk rfl ⟨z, k, H, P, T⟩ Fr.refl
  · rintro m h' l0 l1 l2 l3 ⟨i, rfl, rfl, rfl, rfl, rfl, rfl, hi, hxy, ih⟩
    unfold PX11_itemAt_13
    refine (rdP_iff H.1).mpr ⟨_, rfl, H.ld (i := 3) (by omega) ?_⟩
    rw [P.1.2.2.1]
    refine ⟨fun c => ?_, fun c => ?_⟩
    · have c := (i32_le (by omega) (by omega)).mp c
      have : i = σ.2.1.length := by omega
      subst this
      unfold rItemAt; rw [ifC_pos hxy, ih]
      exact Rq.mk rfl ⟨z, k, H, P, T⟩ Fr.refl
    · have c := mt (i32_le (i := σ.2.1.length) (j := i) (by omega) (by omega)).mpr c
      exact ⟨_, by omega, i, 0, rfl, rfl, rfl, rfl, rfl, rfl, rfl, by omega, Nat.zero_le _, hxy, ih, rfl⟩
  · rintro m h' l0 l1 l2 l3 l4 ⟨i, j, rfl, rfl, rfl, rfl, rfl, rfl, rfl, hi, hj, hxy, ih, ij⟩
    unfold PX11_itemAt_26
    have B : Blk k (164 + 42 * i) (rit σ i).1 := P.1.item hi
    have B3 : (rit σ i).1.length ≤ 3 := B.2.1
    obtain ⟨xa, ya⟩ := P.1.ix hi
    refine csI (m11_itemShape i) (cvI H.1 (m11_pieces H B) ⟨fun c => ?_, fun c => ?_⟩)
    · have c := (i32_le (by omega) (by omega)).mp c
      have : j = (rit σ i).1.length := by omega
      subst this
      exact ⟨(20 - (i + 1)) * 100, by omega, i + 1, rfl, rfl, rfl, rfl, rfl, i32_s _, hi, hxy, find_no ih ij⟩
    · have c := mt (i32_le (i := (rit σ i).1.length) (j := j) (by omega) (by omega)).mpr c
      have hjj : j < (rit σ i).1.length := by omega
      refine csI (m11_itemShape i) (cvI H.1 (m11_itemX H (by omega)) (cvI H.1 (m11_itemY H (by omega)) ?_))
      rw [xa, ya]
      refine cvI H.1 (m11_isIn H B hjj _ _) ⟨fun c2 => ?_, fun c2 => ?_⟩
      · refine ⟨(20 - i) * 100 - 1 - (j + 1), by omega, i, j + 1, rfl, rfl, rfl, rfl, rfl, rfl, i32_s _, hi, hjj, hxy, ih, ?_⟩
        rw [any_succ', ij, Bool.false_or]
        exact Bool.not_eq_true _ |>.mp (r00 rfl c2)
      · have e := r01 rfl c2
        have e2 : ritC σ i l1 l2 = true := List.any_eq_true.mpr ⟨j, List.mem_range.mpr hjj, e⟩
        unfold rItemAt; rw [ifC_pos hxy, find_yes (p := fun k => ritC σ k l1 l2) ih e2 hi]
        exact Rq.mk rfl ⟨z, k, H, P, T⟩ Fr.refl
theorem m11_packed (H : Mrf h cs σ ps) : sX11_packedDoubleArea E [aP (some 313)] h (Rq cs σ ps h (rPacked σ σ.2.1.length)) := by
  obtain ⟨z, k, H, P, T⟩ := H
  have hn := P.1.1.2
  refine uX11_packedDoubleArea (fun m h' l0 l1 l2 => ∃ i, m = (20 - i) * 100 ∧ h' = h ∧ l0 = some 313 ∧ l1 = rPacked σ i ∧ l2 = Int32.ofNat i ∧ i ≤ σ.2.1.length) (fun m h' l0 l1 l2 l3 => ∃ i j, m = (20 - i) * 100 - 1 - j ∧ h' = h ∧ l0 = some 313 ∧ l1 = rpkP σ i j (rPacked σ i) ∧ l2 = Int32.ofNat i ∧ l3 = Int32.ofNat j ∧ i < σ.2.1.length ∧ j ≤ (rit σ i).1.length) ?_ ?_ ?_
  · unfold PX11_packedDoubleArea_0
    exact ⟨_, 0, rfl, rfl, rfl, rfl, rfl, Nat.zero_le _⟩
  · rintro m h' l0 l1 l2 ⟨i, rfl, rfl, rfl, rfl, rfl, hi⟩
    unfold PX11_packedDoubleArea_4
    refine (rdP_iff H.1).mpr ⟨_, rfl, H.ld (i := 3) (by omega) ?_⟩
    rw [P.1.2.2.1]
    refine ⟨fun c => ?_, fun c => ?_⟩
    · have c := (i32_le (by omega) (by omega)).mp c
      have : i = σ.2.1.length := by omega
      subst this
      exact Rq.mk rfl ⟨z, k, H, P, T⟩ Fr.refl
    · have c := mt (i32_le (i := σ.2.1.length) (j := i) (by omega) (by omega)).mpr c
      exact ⟨_, by omega, i, 0, rfl, rfl, rfl, rfl, rfl, rfl, by omega, Nat.zero_le _⟩
  · rintro m h' l0 l1 l2 l3 ⟨i, j, rfl, rfl, rfl, rfl, rfl, rfl, hi, hj⟩
    unfold PX11_packedDoubleArea_16
    have B : Blk k (164 + 42 * i) (rit σ i).1 := P.1.item hi
    have B3 : (rit σ i).1.length ≤ 3 := B.2.1
    refine csI (m11_itemShape i) (cvI H.1 (m11_pieces H B) ⟨fun c => ?_, fun c => ?_⟩)
    · have c := (i32_le (by omega) (by omega)).mp c
      have : j = (rit σ i).1.length := by omega
      subst this
      refine ⟨(20 - (i + 1)) * 100, by omega, i + 1, rfl, rfl, rfl, ?_, i32_s _, hi⟩
      unfold rPacked; rw [fold_s]
    · have c := mt (i32_le (i := (rit σ i).1.length) (j := j) (by omega) (by omega)).mpr c
      have hjj : j < (rit σ i).1.length := by omega
      refine csI (m11_itemShape i) (cvI H.1 (m11_area H B hjj) ?_)
      rintro _ rfl
      refine ⟨(20 - i) * 100 - 1 - (j + 1), by omega, i, j + 1, rfl, rfl, rfl, ?_, rfl, i32_s _, hi, hjj⟩
      unfold rpkP; rw [fold_s]
theorem m11_boundingBox (H : Mrf h cs σ ps) (s : Int32) : sX11_boundingBox E [aP (some 313), aI s] h (Rq cs σ ps h (rBB σ s)) := by
  obtain ⟨z, k, H, P, T⟩ := H
  have hn := P.1.1.2
  refine uX11_boundingBox (fun m h' l0 l1 l2 l3 l4 => ∃ i, m = 20 - i ∧ h' = h ∧ l0 = some 313 ∧ l1 = s ∧ l2 = rsgn s ∧ l3 = rbf σ s i ∧ l4 = Int32.ofNat i ∧ i ≤ σ.2.1.length ∧ inP s 0 3) ?_ ?_
  · unfold PX11_boundingBox_0
    refine csI (m11_in s 0 3) ⟨fun c1 => ?_, fun c1 => ?_⟩
    · refine ⟨fun c2 => ?_, fun c2 => ?_⟩ <;> unfold PX11_boundingBox_22
      · exact ⟨_, 0, rfl, rfl, rfl, rfl, (if_pos c2).symm, rfl, rfl, Nat.zero_le _, ifC1 rfl c1⟩
      · exact ⟨_, 0, rfl, rfl, rfl, rfl, (if_neg c2).symm, rfl, rfl, Nat.zero_le _, ifC1 rfl c1⟩
    · unfold rBB; rw [ifC_neg (ifC0 rfl c1)]
      exact Rq.mk rfl ⟨z, k, H, P, T⟩ Fr.refl
  · rintro m h' l0 l1 l2 l3 l4 ⟨i, rfl, rfl, rfl, rfl, rfl, rfl, rfl, hi, hs⟩
    unfold PX11_boundingBox_29
    refine (rdP_iff H.1).mpr ⟨_, rfl, H.ld (i := 3) (by omega) ?_⟩
    rw [P.1.2.2.1]
    refine ⟨fun c => ?_, fun c => ?_⟩
    · have c := (i32_le (by omega) (by omega)).mp c
      have : i = σ.2.1.length := by omega
      subst this
      refine (rdP_iff H.1).mpr ⟨_, rfl, H.ld (i := 3) (by omega) ?_⟩
      rw [P.1.2.2.1]
      unfold rBB; rw [ifC_pos hs]
      refine ⟨fun c2 => ?_, fun c2 => ?_⟩
      · have : ¬ σ.2.1.length = 0 := fun q => c2 (by rw [q]; rfl)
        rw [if_neg this]
        exact Rq.mk rfl ⟨z, k, H, P, T⟩ Fr.refl
      · rw [if_pos (i32_inj (n := 0) (by omega) (by omega) c2)]
        exact Rq.mk rfl ⟨z, k, H, P, T⟩ Fr.refl
    · have c := mt (i32_le (i := σ.2.1.length) (j := i) (by omega) (by omega)).mpr c
      have hii : i < σ.2.1.length := by omega
      have B := P.1.item hii
      obtain ⟨xa, ya⟩ := P.1.ix hii
      have go : ∀ v, v = rbv σ l1 i → PX11_boundingBox_89 E (Rq cs σ ps h' (rBB σ l1)) (fun h_1 l0 l1_1 l2 l3 l4 => ∃ m', m' < 20 - i ∧ ∃ i, m' = 20 - i ∧ h_1 = h' ∧ l0 = some 313 ∧ l1_1 = l1 ∧ l2 = rsgn l1 ∧ l3 = rbf σ l1 i ∧ l4 = Int32.ofNat i ∧ i ≤ σ.2.1.length ∧ inP l1 0 3) h' (some 313) l1 (rsgn l1) (rbf σ l1 i) (Int32.ofNat i) v := fun v ev => by
        unfold PX11_boundingBox_89
        subst ev
        refine ⟨fun c2 => ⟨_, by omega, i + 1, rfl, rfl, rfl, rfl, rfl, ?_, i32_s _, hii, hs⟩, fun c2 => ⟨_, by omega, i + 1, rfl, rfl, rfl, rfl, rfl, ?_, i32_s _, hii, hs⟩⟩
        · unfold rbf at c2 ⊢; rw [fold_s]; exact (if_pos c2).symm
        · unfold rbf at c2 ⊢; rw [fold_s]; exact (if_neg c2).symm
      refine ⟨by decide, fun c2 => ?_, fun c2 => ?_⟩
      · refine csI (m11_itemShape i) (cvI H.1 (m11_highest H B 0 (rsgn l1)) (cvI H.1 (m11_itemY H (by omega)) (go _ ?_)))
        rw [ya]; exact (if_neg c2).symm
      · refine csI (m11_itemShape i) (cvI H.1 (m11_highest H B (rsgn l1) 0) (cvI H.1 (m11_itemX H (by omega)) (go _ ?_)))
        rw [xa]; exact (if_pos c2).symm
theorem m11_touchingPairs (H : Mrf h cs σ ps) : sX11_touchingPairs E [aP (some 313)] h (Rq cs σ ps h (rTouch σ σ.2.1.length)) := by
  obtain ⟨z, k, H, P, T⟩ := H
  have hn := P.1.1.2
  refine uX11_touchingPairs (fun m h' l0 l1 l2 => ∃ a n1 n2, m = (20 - a) * 100 ∧ l0 = some 313 ∧ l1 = rTouch σ a ∧ l2 = Int32.ofNat a ∧ a ≤ σ.2.1.length ∧ MoZ h' (zN z n1 n2) k ∧ Fr 313 314 h h') (fun m h' l0 l1 l2 l3 => ∃ a b n1 n2, m = (20 - a) * 100 - 1 - b ∧ l0 = some 313 ∧ l1 = rtcA σ a b (rTouch σ a) ∧ l2 = Int32.ofNat a ∧ l3 = Int32.ofNat b ∧ a < σ.2.1.length ∧ b ≤ a ∧ MoZ h' (zN z n1 n2) k ∧ Fr 313 314 h h') ?_ ?_ ?_
  · unfold PX11_touchingPairs_0
    exact ⟨_, 0, z.1, z.2.1, rfl, rfl, rfl, rfl, Nat.zero_le _, H, Fr.refl⟩
  · rintro m h' l0 l1 l2 ⟨a, n1, n2, rfl, rfl, rfl, rfl, ha, H', f⟩
    unfold PX11_touchingPairs_4
    refine (rdP_iff H'.1).mpr ⟨_, rfl, H'.ld (i := 3) (by omega) ?_⟩
    rw [P.1.2.2.1]
    refine ⟨fun c => ?_, fun c => ?_⟩
    · have c := (i32_le (by omega) (by omega)).mp c
      have : a = σ.2.1.length := by omega
      subst this
      exact Rq.mk rfl ⟨_, k, H', P, T⟩ (f.weak (by omega) (by omega))
    · have c := mt (i32_le (i := σ.2.1.length) (j := a) (by omega) (by omega)).mpr c
      exact ⟨_, by omega, a, 0, n1, n2, rfl, rfl, rfl, rfl, rfl, by omega, Nat.zero_le _, H', f⟩
  · rintro m h' l0 l1 l2 l3 ⟨a, b, n1, n2, rfl, rfl, rfl, rfl, rfl, ha, hb, H', f⟩
    unfold PX11_touchingPairs_16
    refine ⟨fun c1 => ?_, fun c1 => ?_⟩
    · have c1 := (i32_le (by omega) (by omega)).mp c1
      have : b = a := by omega
      subst this
      refine ⟨(20 - (b + 1)) * 100, by omega, b + 1, n1, n2, rfl, rfl, ?_, i32_s _, ha, H', f⟩
      unfold rTouch; rw [fold_s]
    · have c1 := mt (i32_le (i := a) (j := b) (by omega) (by omega)).mpr c1
      obtain ⟨xa, ya⟩ := P.1.ix ha
      obtain ⟨xb, yb⟩ := P.1.ix (i := b) (by omega)
      refine csI (m11_itemShape a) (csI (m11_itemShape b) (cvI H'.1 (m11_itemX H' (by omega)) (cvI H'.1 (m11_itemX H' (by omega)) (cvI H'.1 (m11_itemY H' (by omega)) (cvI H'.1 (m11_itemY H' (by omega)) ?_)))))
      rw [xa, ya, xb, yb]
      refine cvIq H'.1 (m11_lies H' (P.1.item ha) (P.1.item (i := b) (by omega)) _ _) fun v h12 q => ?_
      obtain ⟨ev, ⟨n1', n2', H12⟩, f12⟩ := q
      refine ⟨fun c7 => ?_, fun c7 => ?_⟩ <;> unfold PX11_touchingPairs_65
      · rintro _ rfl
        refine ⟨(20 - a) * 100 - 1 - (b + 1), by omega, a, b + 1, n1', n2', rfl, rfl, ?_, rfl, i32_s _, ha, by omega, H12, f.trans f12⟩
        unfold rtcA; rw [fold_s, if_neg (fun q => c7 (ev.trans q))]
      · rintro _ rfl
        refine ⟨(20 - a) * 100 - 1 - (b + 1), by omega, a, b + 1, n1', n2', rfl, rfl, ?_, rfl, i32_s _, ha, by omega, H12, f.trans f12⟩
        unfold rtcA; rw [fold_s, if_pos (ev.symm.trans c7)]
theorem m11_closestPair (H : Mrf h cs σ ps) : sX11_closestPair E [aP (some 313)] h (Rq cs σ ps h (rClosest σ)) := by
  obtain ⟨z, k, H, P, T⟩ := H
  have hn := P.1.1.2
  refine uX11_closestPair (fun m h' l0 l1 l2 l4 l6 => ∃ i z', m = (20 - i) * 100 ∧ i ≤ σ.2.1.length ∧ l0 = some 313 ∧ (l1, (l2, l4)) = rcpGo σ i (i + 1) ∧ l6 = Int32.ofNat i ∧ MoZ h' z' k ∧ Fr 313 314 h h')
    (fun m h' l0 l1 l2 l4 l6 l7 => ∃ i j z', m = (20 - i) * 100 - 1 - j ∧ i < σ.2.1.length ∧ i + 1 ≤ j ∧ j ≤ σ.2.1.length ∧ l0 = some 313 ∧ (l1, (l2, l4)) = rcpGo σ i j ∧ l6 = Int32.ofNat i ∧ l7 = Int32.ofNat j ∧ MoZ h' z' k ∧ Fr 313 314 h h') ?_ ?_ ?_
  · unfold PX11_closestPair_0
    have e0 : rcpGo σ 0 (0 + 1) = (-1000009, (0, 1)) := by unfold rcpGo; rw [pr2_zero]; rfl
    exact ⟨_, 0, z, rfl, Nat.zero_le _, rfl, e0.symm, rfl, H, Fr.refl⟩
  · rintro m h' l0 l1 l2 l4 l6 ⟨i, z', rfl, hi, rfl, es, rfl, H', f⟩
    unfold PX11_closestPair_11
    refine (rdP_iff H'.1).mpr ⟨_, rfl, H'.ld (i := 3) (by omega) ?_⟩
    rw [P.1.2.2.1]
    refine ⟨fun c => ?_, fun c v3 e3 => ?_⟩
    · have c := (i32_le (by omega) (by omega)).mp c
      have : i = σ.2.1.length := by omega
      subst this
      exact Rq.mk (congrArg Prod.fst es).symm ⟨_, k, H', P, T⟩ (f.weak (by omega) (by omega))
    · have c := mt (i32_le (i := σ.2.1.length) (j := i) (by omega) (by omega)).mpr c
      exact ⟨_, by omega, i, i + 1, z', rfl, by omega, Nat.le_refl _, by omega, rfl, es, rfl, by rw [e3, i32_s], H', f⟩
  · rintro m h' l0 l1 l2 l4 l6 l7 ⟨i, j, z', rfl, hi, hij, hj, rfl, es, rfl, rfl, H', f⟩
    unfold PX11_closestPair_28
    refine (rdP_iff H'.1).mpr ⟨_, rfl, H'.ld (i := 3) (by omega) ?_⟩
    rw [P.1.2.2.1]
    refine ⟨fun c => ?_, fun c => ?_⟩
    · have c := (i32_le (by omega) (by omega)).mp c
      have : j = σ.2.1.length := by omega
      subst this
      have e1 : rcpGo σ i σ.2.1.length = rcpGo σ (i + 1) (i + 1 + 1) := by unfold rcpGo; rw [pr2_row]
      exact ⟨(20 - (i + 1)) * 100, by omega, i + 1, z', rfl, hi, rfl, by rw [← e1]; exact es, i32_s i, H', f⟩
    · have c := mt (i32_le (i := σ.2.1.length) (j := j) (by omega) (by omega)).mpr c
      have hjj : j < σ.2.1.length := by omega
      refine cvVq H'.1 (m11_itemGapOf H' P.1 hi hjj) fun h4 q4 => ?_
      obtain ⟨⟨z4, H4, e4⟩, f4⟩ := q4
      have eg : rcpGo σ i (j + 1) = rcpStep σ (rcpGo σ i j) (i, j) := by unfold rcpGo; rw [pr2_succ hij, List.foldl_append]; rfl
      have g1 : l1 = (rcpGo σ i j).1 := congrArg Prod.fst es
      have g2 : l2 = (rcpGo σ i j).2.1 := congrArg (fun q => q.2.1) es
      have g4 : l4 = (rcpGo σ i j).2.2 := congrArg (fun q => q.2.2) es
      have f5 : z4.2.2.1 = (rig σ i j).1 := congrArg Prod.fst e4
      have f6 : z4.2.2.2.1 = (rig σ i j).2 := congrArg Prod.snd e4
      have yes : ((rcpGo σ i j).1 = -1000009 ∨ (rig σ i j).1 * (rcpGo σ i j).2.2 < (rcpGo σ i j).2.1 * (rig σ i j).2) → PX11_closestPair_70 E (Rq cs σ ps h (rClosest σ)) (fun h_1 l0 l1 l2 l4 l6 l7 => ∃ m', m' < (20 - i) * 100 - 1 - j ∧ ∃ i j z', m' = (20 - i) * 100 - 1 - j ∧ i < σ.2.1.length ∧ i + 1 ≤ j ∧ j ≤ σ.2.1.length ∧ l0 = some 313 ∧ (l1, (l2, l4)) = rcpGo σ i j ∧ l6 = Int32.ofNat i ∧ l7 = Int32.ofNat j ∧ MoZ h_1 z' k ∧ Fr 313 314 h h_1) h4 (some 313) l1 l2 l4 (Int32.ofNat i) (Int32.ofNat j) := fun d => by
        unfold PX11_closestPair_70 PX11_closestPair_75
        refine ⟨fun q => absurd q (by decide), fun _ => ?_⟩
        unfold PX11_closestPair_94
        refine ⟨fun q => absurd q (by decide), fun _ => (rdJ_iff H4.1).mpr ⟨_, rfl, ?_⟩⟩
        unfold PX11_closestPair_108
        refine ⟨fun q => absurd q (by decide), fun _ => (rdJ_iff H4.1).mpr ⟨_, rfl, ?_⟩⟩
        refine ⟨(20 - i) * 100 - 1 - (j + 1), by omega, i, j + 1, z4, rfl, hi, by omega, hjj, rfl, ?_, rfl, i32_s _, H4, f.trans f4⟩
        rw [eg]; unfold rcpStep; rw [if_pos d, f5, f6]
      have no : ¬ ((rcpGo σ i j).1 = -1000009 ∨ (rig σ i j).1 * (rcpGo σ i j).2.2 < (rcpGo σ i j).2.1 * (rig σ i j).2) → PX11_closestPair_75 E (Rq cs σ ps h (rClosest σ)) (fun h_1 l0 l1 l2 l4 l6 l7 => ∃ m', m' < (20 - i) * 100 - 1 - j ∧ ∃ i j z', m' = (20 - i) * 100 - 1 - j ∧ i < σ.2.1.length ∧ i + 1 ≤ j ∧ j ≤ σ.2.1.length ∧ l0 = some 313 ∧ (l1, (l2, l4)) = rcpGo σ i j ∧ l6 = Int32.ofNat i ∧ l7 = Int32.ofNat j ∧ MoZ h_1 z' k ∧ Fr 313 314 h h_1) h4 (some 313) l1 l2 l4 (Int32.ofNat i) (Int32.ofNat j) 0 := fun d => by
        unfold PX11_closestPair_75
        refine ⟨fun _ => ?_, fun q => absurd rfl q⟩
        unfold PX11_closestPair_94
        refine ⟨fun _ => ?_, fun q => absurd rfl q⟩
        unfold PX11_closestPair_108
        refine ⟨fun _ => ?_, fun q => absurd rfl q⟩
        refine ⟨(20 - i) * 100 - 1 - (j + 1), by omega, i, j + 1, z4, rfl, hi, by omega, hjj, rfl, ?_, rfl, i32_s _, H4, f.trans f4⟩
        rw [eg]; unfold rcpStep; rw [if_neg d]; exact es
      refine ⟨fun c1 => yes (Or.inl (g1.symm.trans c1)), fun c1 => (rdJ_iff H4.1).mpr ⟨_, rfl, (rdJ_iff H4.1).mpr ⟨_, rfl, fun c2 => no ?_, fun c2 => yes (Or.inr ?_)⟩⟩⟩
      · rw [f5, f6, g2, g4] at c2
        exact fun q => q.elim (fun q => c1 (g1.trans q)) (lg_ge.mp c2)
      · rw [f5, f6, g2, g4] at c2
        exact Decidable.of_not_not fun q => c2 (lg_ge.mpr q)
end RQ3
