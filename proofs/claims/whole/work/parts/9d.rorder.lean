/-! the reference's removal of items -/
def rBlk (σ : RV) (d : Int32) (q i : Nat) : Bool := decide (0 < (stP (rit σ q).1 (rit σ i).1 ((rit σ i).2.1 - (rit σ q).2.1) ((rit σ i).2.2 - (rit σ q).2.2) (dxR d) (dyR d) 0).2)
def bitB (m : Int32) (q : Nat) : Bool := decide (((m >>> (Int32.ofNat q &&& 31)) &&& 1) = 1)
def rOutQ (σ : RV) (i : Nat) (d m : Int32) (q : Nat) : Bool := decide (q = i) || !bitB m q || !rBlk σ d q i
def rOut (σ : RV) (i : Nat) (d m : Int32) : Bool := (List.range σ.2.1.length).all (rOutQ σ i d m)
noncomputable def rEsc (σ : RV) (i d : Int32) : Int32 := ifC (RItm σ i ∧ Dirn d) (bI (rOut σ (nx i) d 255)) (-1000001)
def rroP (σ : RV) (d m : Int32) (q : Nat) : Bool := bitB m q && rOut σ q d m
def rroGo (σ : RV) (d k : Int32) : Nat → Nat → Int32 → Int32
  | 0, _, _ => -1000009
  | t + 1, s, m => match (List.range σ.2.1.length).find? (rroP σ d m) with
    | none => -1000009
    | some q => if Int32.ofNat s = k then Int32.ofNat q else rroGo σ d k t (s + 1) (m &&& (((1 : Int32) <<< (Int32.ofNat q &&& 31)) ^^^ -1))
theorem rroGo_succ {σ : RV} {d k m : Int32} {t s : Nat} : rroGo σ d k (t + 1) s m = match (List.range σ.2.1.length).find? (rroP σ d m) with
    | none => -1000009
    | some q => if Int32.ofNat s = k then Int32.ofNat q else rroGo σ d k t (s + 1) (m &&& (((1 : Int32) <<< (Int32.ofNat q &&& 31)) ^^^ -1)) := rfl
noncomputable def rRemoval (σ : RV) (d k : Int32) : Int32 := ifC (Dirn d ∧ 0 ≤ k) (rroGo σ d k 8 0 (((1 : Int32) <<< (Int32.ofNat σ.2.1.length &&& 31)) - 1)) (-1000001)
def oI : Option Nat → Int32
  | none => -1000009
  | some q => Int32.ofNat q
section RO
variable {E : EV} {h : AH} {z : Sc} {k : MK} {cs : List Int32} {σ : RV} {ps : List RV}
theorem st_pos {SA SB : SH} {x y dx dy : Int32} {s1 : Int64} : 0 < (stP SA SB x y dx dy s1).2 ↔ 0 < (stP SA SB x y dx dy 0).2 := by
  rcases st_ind (SA := SA) (SB := SB) (x := x) (y := y) (dx := dx) (dy := dy) (s1 := s1) with e | ⟨e1, e2⟩
  · rw [e]
  · rw [e1, e2]
theorem m11_comesOut (H : MoZ h z k) (P : RsF (sA k) σ) {i : Nat} (hi : i < σ.2.1.length) (d m0 : Int32) : sX11_comesOut E [aP (some 313), aI (Int32.ofNat i), aI d, aI m0] h (kI fun r h' => r = bI (rOut σ i d m0) ∧ (∃ z', MoZ h' z' k) ∧ Fr 313 314 h h') := by
  have hn := P.1.2
  refine uX11_comesOut (fun m h' l0 l1 l2 l3 l4 l5 => ∃ j ok z', m = 20 - j ∧ l0 = some 313 ∧ l1 = Int32.ofNat i ∧ l2 = d ∧ l3 = m0 ∧ l4 = bI ok ∧ l5 = Int32.ofNat j ∧ j ≤ σ.2.1.length ∧ MoZ h' z' k ∧ Fr 313 314 h h' ∧ ok = (List.range j).all (rOutQ σ i d m0)) ?_ ?_
  · unfold PX11_comesOut_0
    exact ⟨_, 0, true, z, rfl, rfl, rfl, rfl, rfl, rfl, rfl, Nat.zero_le _, H, Fr.refl, rfl⟩
  · rintro m h' l0 l1 l2 l3 l4 l5 ⟨j, ok, z', rfl, rfl, rfl, rfl, rfl, rfl, rfl, hj, H', f, eo⟩
    unfold PX11_comesOut_6
    refine (rdP_iff H'.1).mpr ⟨_, rfl, H'.ld (i := 3) (by omega) ?_⟩
    rw [P.2.2.1]
    refine ⟨fun c => ?_, fun c => ⟨fun c1 => ?_, fun c1 => ?_⟩⟩
    · have c := (i32_le (by omega) (by omega)).mp c
      have : j = σ.2.1.length := by omega
      subst this
      exact ⟨bI01, _, rfl, by rw [eo]; rfl, ⟨z', H'⟩, f⟩
    · have o0 := bI0.mp c1
      refine ⟨bI01, _, rfl, ?_, ⟨z', H'⟩, f⟩
      rw [o0] at eo
      have : rOut σ i l2 l3 = false := all_le eo.symm hj
      rw [this, o0]
    · have c := mt (i32_le (i := σ.2.1.length) (j := j) (by omega) (by omega)).mpr c
      have hjj : j < σ.2.1.length := by omega
      have o1 := bI_true c1
      rw [o1] at eo
      have skip : rOutQ σ i l2 l3 j = true → ∃ m', m' < 20 - j ∧ ∃ j' ok z', m' = 20 - j' ∧ (some 313 : Option Nat) = some 313 ∧ Int32.ofNat i = Int32.ofNat i ∧ l2 = l2 ∧ l3 = l3 ∧ (1 : Int32) = bI ok ∧ Int32.ofNat j + 1 = Int32.ofNat j' ∧ j' ≤ σ.2.1.length ∧ MoZ h' z' k ∧ Fr 313 314 h h' ∧ ok = (List.range j').all (rOutQ σ i l2 l3) := fun q => ⟨_, by omega, j + 1, true, z', rfl, rfl, rfl, rfl, rfl, rfl, i32_s _, hjj, H', f, by rw [all_succ, ← eo, q]; rfl⟩
      refine ⟨fun c2 => ?_, fun c2 => ⟨fun c3 => ?_, fun c3 => ?_⟩⟩
      · unfold PX11_comesOut_42 PX11_comesOut_43
        refine ⟨fun _ => skip ?_, fun q => absurd rfl q⟩
        unfold rOutQ; rw [decide_eq_true (i32_inj (by omega) (by omega) c2)]; rfl
      · unfold PX11_comesOut_42 PX11_comesOut_43
        refine ⟨fun _ => skip ?_, fun q => absurd rfl q⟩
        unfold rOutQ bitB; rw [decide_eq_false c3]; simp
      · have nji : ¬ j = i := fun q => c2 (by rw [q])
        have hb : bitB l3 j = true := decide_eq_true c3
        unfold PX11_comesOut_43
        refine ⟨fun q => absurd q (by decide), fun _ => ?_⟩
        obtain ⟨xi, yi⟩ := P.ix hi
        obtain ⟨xj, yj⟩ := P.ix hjj
        refine csI (m11_itemShape j) (csI (m11_itemShape i) (cvI H'.1 (m11_itemX H' (by omega)) (cvI H'.1 (m11_itemX H' (by omega)) (cvI H'.1 (m11_itemY H' (by omega)) (cvI H'.1 (m11_itemY H' (by omega)) ?_)))))
        rw [xi, yi, xj, yj]
        refine cvIq H'.1 (m11_stops H' (P.item hjj) (P.item hi) _ _ l2) fun r h15 q15 => ?_
        obtain ⟨e15, ⟨z15, H15, -⟩, f15⟩ := q15
        refine ⟨fun c4 => ?_, fun c4 => ?_⟩
        · have hB : rBlk σ l2 j i = true := decide_eq_true (st_pos.mp (r01 e15 c4))
          refine ⟨_, by omega, j + 1, false, z15, rfl, rfl, rfl, rfl, rfl, rfl, i32_s _, hjj, H15, f.trans f15, ?_⟩
          rw [all_succ, ← eo]; unfold rOutQ; rw [decide_eq_false nji, hb, hB]; rfl
        · have hB : rBlk σ l2 j i = false := decide_eq_false fun q => r00 e15 c4 (st_pos.mpr q)
          refine ⟨_, by omega, j + 1, true, z15, rfl, rfl, rfl, rfl, rfl, rfl, i32_s _, hjj, H15, f.trans f15, ?_⟩
          rw [all_succ, ← eo]; unfold rOutQ; rw [decide_eq_false nji, hb, hB]; rfl
theorem m11_escapes (H : Mrf h cs σ ps) (i d : Int32) : sX11_escapes E [aP (some 313), aI i, aI d] h (Rq cs σ ps h (rEsc σ i d)) := by
  obtain ⟨z, k, H, P, T⟩ := H
  refine eX11_escapes ?_
  unfold PX11_escapes_0
  have hn := P.1.1.2
  have bad : ¬ (RItm σ i ∧ Dirn d) → Rq cs σ ps h (rEsc σ i d) (some (aI (-1000001))) h := fun q => by
    unfold rEsc; rw [ifC_neg q]; exact Rq.mk rfl ⟨z, k, H, P, T⟩ Fr.refl
  refine cvI H.1 (m11_isItem H P.1 i) ⟨fun c1 => bad fun q => ifC0 rfl c1 q.1, fun c1 => csI (m11_in d 0 7) ⟨fun c2 => ?_, fun c2 => bad fun q => ifC0 rfl c2 (in_dir.mpr q.2)⟩⟩
  have ok : RItm σ i ∧ Dirn d := ⟨ifC1 rfl c1, in_dir.mp (ifC1 rfl c2)⟩
  obtain ⟨j, rfl, hj, ej⟩ := ok.1.ex hn
  unfold rEsc; rw [ifC_pos ok, ej]
  refine cvIq H.1 (m11_comesOut H P.1 hj d 255) fun r h6 q6 => ?_
  obtain ⟨e6, ⟨z6, H6⟩, f6⟩ := q6
  refine ⟨fun c3 => ?_, fun c3 => ?_⟩
  · rw [bI0.mp (e6.symm.trans c3)]
    exact Rq.mk rfl ⟨_, k, H6, P, T⟩ (f6.weak (by omega) (by omega))
  · rw [bI_true fun q => c3 (e6.trans q)]
    exact Rq.mk rfl ⟨_, k, H6, P, T⟩ (f6.weak (by omega) (by omega))
theorem oI_ne {q : Nat} (hq : q < 100) : ¬ Int32.ofNat q = -1000009 := fun e => by
  have := i32_nn (j := q) (by omega)
  rw [e] at this; exact this (by decide)
theorem m11_removalOrder (H : Mrf h cs σ ps) (d k0 : Int32) : sX11_removalOrder E [aP (some 313), aI d, aI k0] h (Rq cs σ ps h (rRemoval σ d k0)) := by
  obtain ⟨z, k, H, P, T⟩ := H
  have hn := P.1.1.2
  refine uX11_removalOrder (fun m h' l0 l1 l2 l3 l4 => ∃ s z', m = (20 - s) * 100 ∧ s ≤ 8 ∧ l0 = some 313 ∧ l1 = d ∧ l2 = k0 ∧ l4 = Int32.ofNat s ∧ MoZ h' z' k ∧ Fr 313 314 h h' ∧ rroGo σ d k0 (8 - s) s l3 = rRemoval σ d k0) (fun m h' l0 l1 l2 l3 l4 l5 l6 => ∃ s j z', m = (20 - s) * 100 - 60 + j ∧ s < 8 ∧ j ≤ σ.2.1.length ∧ l0 = some 313 ∧ l1 = d ∧ l2 = k0 ∧ l4 = Int32.ofNat s ∧ l5 = oI ((List.range' j (σ.2.1.length - j)).find? (rroP σ d l3)) ∧ l6 = Int32.ofNat j - 1 ∧ MoZ h' z' k ∧ Fr 313 314 h h' ∧ rroGo σ d k0 (8 - s) s l3 = rRemoval σ d k0) ?_ ?_ ?_
  · unfold PX11_removalOrder_0
    have bad : ¬ (Dirn d ∧ 0 ≤ k0) → Rq cs σ ps h (rRemoval σ d k0) (some (aI (-1000001))) h := fun q => by
      unfold rRemoval; rw [ifC_neg q]; exact Rq.mk rfl ⟨z, k, H, P, T⟩ Fr.refl
    refine csI (m11_in d 0 7) ⟨fun c1 => bad fun q => ifC0 rfl c1 (in_dir.mpr q.1), fun c1 => ⟨fun c2 => ?_, fun c2 => bad fun q => c2 q.2⟩⟩
    refine (rdP_iff H.1).mpr ⟨_, rfl, H.ld (i := 3) (by omega) ?_⟩
    rw [P.1.2.2.1]
    rintro _ rfl
    exact ⟨_, 0, z, rfl, by omega, rfl, rfl, rfl, rfl, H, Fr.refl, by unfold rRemoval; rw [ifC_pos ⟨in_dir.mp (ifC1 rfl c1), c2⟩]⟩
  · rintro m h' l0 l1 l2 l3 l4 ⟨s, z', rfl, hs, rfl, rfl, rfl, rfl, H', f, eg⟩
    unfold PX11_removalOrder_31
    refine ⟨fun c => ?_, fun c => ?_⟩
    · have c := (i32_le (i := 8) (by omega) (by omega)).mp c
      have : s = 8 := by omega
      subst this
      exact Rq.mk eg.symm ⟨_, k, H', P, T⟩ (f.weak (by omega) (by omega))
    · have c := mt (i32_le (i := 8) (j := s) (by omega) (by omega)).mpr c
      refine (rdP_iff H'.1).mpr ⟨_, rfl, H'.ld (i := 3) (by omega) ?_⟩
      rw [P.1.2.2.1]
      rintro _ rfl
      exact ⟨_, by omega, s, σ.2.1.length, z', rfl, by omega, Nat.le_refl _, rfl, rfl, rfl, rfl, by rw [Nat.sub_self]; rfl, rfl, H', f, eg⟩
  · rintro m h' l0 l1 l2 l3 l4 l5 l6 ⟨s, j, z', rfl, hs, hj, rfl, rfl, rfl, rfl, rfl, rfl, H', f, eg⟩
    unfold PX11_removalOrder_52
    cases j with
    | zero =>
      refine ⟨fun _ => ?_, fun c => absurd (show Int32.ofNat 0 - 1 < 0 by decide) c⟩
      rw [Nat.sub_zero, ← List.range_eq_range']
      obtain ⟨t, ht⟩ : ∃ t, 8 - s = t + 1 := ⟨7 - s, by omega⟩
      rw [ht, rroGo_succ] at eg
      cases hf : (List.range σ.2.1.length).find? (rroP σ l1 l3) with
      | none =>
        rw [hf] at eg
        refine ⟨fun _ => Rq.mk eg.symm ⟨_, k, H', P, T⟩ (f.weak (by omega) (by omega)), fun c => absurd rfl c⟩
      | some q =>
        rw [hf] at eg
        have hq := List.mem_range.mp (List.mem_of_find?_eq_some hf)
        refine ⟨fun c => absurd c (oI_ne (q := q) (by omega)), fun _ => ⟨fun c => ?_, fun c => ?_⟩⟩
        · rintro _ rfl
          dsimp only at eg
          rw [if_neg c] at eg
          exact ⟨(20 - (s + 1)) * 100, by omega, s + 1, z', rfl, by omega, rfl, rfl, rfl, i32_s _, H', f, by rw [show 8 - (s + 1) = t by omega]; exact eg⟩
        · dsimp only at eg
          rw [if_pos c] at eg
          exact Rq.mk eg.symm ⟨_, k, H', P, T⟩ (f.weak (by omega) (by omega))
    | succ j =>
      have e6 : Int32.ofNat (j + 1) - 1 = Int32.ofNat j := by rw [i32_pred (by omega) (by omega)]; rfl
      rw [e6]
      have e7 : Int32.ofNat j + (-1) = Int32.ofNat j - 1 := by rw [Int32.sub_eq_add_neg]
      have er : List.range' j (σ.2.1.length - j) = j :: List.range' (j + 1) (σ.2.1.length - (j + 1)) := by
        rw [show σ.2.1.length - j = (σ.2.1.length - (j + 1)) + 1 by omega, List.range'_succ]
      have skip : ∀ h2 z2, MoZ h2 z2 k → Fr 313 314 h h2 → rroP σ l1 l3 j = false → PX11_removalOrder_83 E (Rq cs σ ps h (rRemoval σ l1 l2)) (fun h' l0 l1_1 l2_1 l3 l4 l5 l6 => ∃ m', m' < (20 - s) * 100 - 60 + (j + 1) ∧ ∃ s j z', m' = (20 - s) * 100 - 60 + j ∧ s < 8 ∧ j ≤ σ.2.1.length ∧ l0 = some 313 ∧ l1_1 = l1 ∧ l2_1 = l2 ∧ l4 = Int32.ofNat s ∧ l5 = oI ((List.range' j (σ.2.1.length - j)).find? (rroP σ l1 l3)) ∧ l6 = Int32.ofNat j - 1 ∧ MoZ h' z' k ∧ Fr 313 314 h h' ∧ rroGo σ l1 l2 (8 - s) s l3 = rRemoval σ l1 l2) h2 (some 313) l1 l2 l3 (Int32.ofNat s) (oI ((List.range' (j + 1) (σ.2.1.length - (j + 1))).find? (rroP σ l1 l3))) (Int32.ofNat j) := fun h2 z2 H2 f2 hp => by
        unfold PX11_removalOrder_83
        refine ⟨_, by omega, s, j, z2, rfl, hs, by omega, rfl, rfl, rfl, rfl, ?_, e7, H2, f2, eg⟩
        rw [er, List.find?_cons_of_neg (by rw [hp]; decide)]
      refine ⟨fun c => absurd c (i32_nn (by omega)), fun _ => ⟨fun c => skip h' z' H' f ?_, fun c => ?_⟩⟩
      · unfold rroP bitB; rw [decide_eq_false c]; rfl
      · have hb : bitB l3 j = true := decide_eq_true c
        refine cvIq H'.1 (m11_comesOut H' P.1 (by omega) l1 l3) fun r h2 q2 => ?_
        obtain ⟨e2, ⟨z2, H2⟩, f2⟩ := q2
        refine ⟨fun c2 => skip h2 z2 H2 (f.trans f2) ?_, fun c2 => ?_⟩
        · unfold rroP; rw [hb, bI0.mp (e2.symm.trans c2)]; rfl
        · have ho : rOut σ j l1 l3 = true := bI_true fun q => c2 (e2.trans q)
          refine ⟨_, by omega, s, j, z2, rfl, hs, by omega, rfl, rfl, rfl, rfl, ?_, e7, H2, f.trans f2, eg⟩
          rw [er, List.find?_cons_of_pos (by unfold rroP; rw [hb, ho]; rfl)]; rfl
end RO
