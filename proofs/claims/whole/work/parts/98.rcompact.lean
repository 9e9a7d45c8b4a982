/-! the reference slides one item, compacts, lays a layout -/
/-- how far an item slides -/
noncomputable def slN (σ : RV) (i : Nat) (d : Int32) : Nat := @dite Nat (∃ n, SlE σ i d n) (Classical.propDecidable _) (fun h => Classical.choose h) (fun _ => 0)
theorem slN_spec {σ : RV} {i : Nat} {d : Int32} (h : ∃ n, SlE σ i d n) : SlE σ i d (slN σ i d) := by
  unfold slN; rw [@dif_pos _ (Classical.propDecidable _) h]; exact Classical.choose_spec h
noncomputable def rcOne (σ : RV) (i : Nat) (d : Int32) : RV := rSet σ i (psn σ i d (slN σ i d))
noncomputable def rcItem (s : RV × Nat) (i : Nat) : RV × Nat := (rcOne (rcOne s.1 i 6) i 4, s.2 + slN s.1 i 6 + slN (rcOne s.1 i 6) i 4)
noncomputable def rcR (σ : RV) (j : Nat) : RV × Nat := (List.range j).foldl rcItem (σ, 0)
theorem rcR_succ {σ : RV} {j : Nat} : rcR σ (j + 1) = rcItem (rcR σ j) j := by
  unfold rcR; rw [List.range_succ, List.foldl_append]; rfl
noncomputable def rcGo : Nat → RV → Nat → RV × Nat
  | 0, σ, t => (σ, t)
  | f + 1, σ, t => if (rcR σ σ.2.1.length).2 = 0 then ((rcR σ σ.2.1.length).1, t) else rcGo f (rcR σ σ.2.1.length).1 (t + (rcR σ σ.2.1.length).2)
theorem rcGo_succ {f t : Nat} {σ : RV} : rcGo (f + 1) σ t = if (rcR σ σ.2.1.length).2 = 0 then ((rcR σ σ.2.1.length).1, t) else rcGo f (rcR σ σ.2.1.length).1 (t + (rcR σ σ.2.1.length).2) := rfl
/-- a state from which the rounds end -/
def Cmp (Gd : RV → Prop) (pot : RV → Nat) : Prop :=
  (∀ σ i d, Gd σ → i < σ.2.1.length → (d = 4 ∨ d = 6) → ∃ n, SlE σ i d n) ∧ (∀ σ i d, Gd σ → i < σ.2.1.length → (d = 4 ∨ d = 6) → Gd (rcOne σ i d)) ∧ (∀ σ i d, Gd σ → i < σ.2.1.length → (d = 4 ∨ d = 6) → pot (rcOne σ i d) + slN σ i d ≤ pot σ) ∧ ∀ σ, Gd σ → pot σ < 100000
noncomputable def rCompact (σ : RV) (ps : List RV) (f : Nat) : Int32 × RV × List RV := if rCan σ = true then (Int32.ofNat (rcGo f σ 0).2, (rcGo f σ 0).1, pushR ps σ) else (-1000009, σ, ps)
section RN
variable {E : EV} {h : AH} {z : Sc} {k : MK} {cs : List Int32} {σ : RV} {ps : List RV} {b : Nat} {S : SH}
theorem any_succ' {p : Nat → Bool} {n : Nat} : (List.range (n + 1)).any p = ((List.range n).any p || p n) := by
  rw [List.range_succ, List.any_append, List.any_cons, List.any_nil, Bool.or_false]
theorem m11_slideItem (H : Mrf h cs σ ps) (i d : Int32) {n : Nat} (hE : RItm σ i → inP d 0 7 → SlE σ (nx i) d n) : sX11_slideItem E [aP (some 313), aI i, aI d] h (Rq cs (rSlideI σ ps i d n).2.1 (rSlideI σ ps i d n).2.2 h (rSlideI σ ps i d n).1) := by
  obtain ⟨z, k, H, P, T⟩ := H
  have hn := P.1.1.2
  refine eX11_slideItem ?_
  unfold PX11_slideItem_0
  have bad : ¬ (RItm σ i ∧ inP d 0 7) → Rq cs (rSlideI σ ps i d n).2.1 (rSlideI σ ps i d n).2.2 h (rSlideI σ ps i d n).1 (some (aI (-1000001))) h := fun q => by
    unfold rSlideI; rw [ifC_neg q]; exact Rq.mk rfl ⟨z, k, H, P, T⟩ Fr.refl
  refine cvI H.1 (m11_isItem H P.1 i) ⟨fun c1 => bad fun q => ifC0 rfl c1 q.1, fun c1 => csI (m11_in d 0 7) ⟨fun c2 => ?_, fun c2 => bad fun q => ifC0 rfl c2 q.2⟩⟩
  have ok : RItm σ i ∧ inP d 0 7 := ⟨ifC1 rfl c1, ifC1 rfl c2⟩
  have hE := hE ok.1 ok.2
  obtain ⟨j, rfl, hj, ej⟩ := ok.1.ex hn
  rw [ej] at hE
  unfold rSlideI; rw [ifC_pos ok, ej]
  obtain ⟨xa, ya⟩ := P.1.ix hj
  refine csI (m11_itemShape j) (cvI H.1 (m11_itemX H (by omega)) (csI (m11_dirX d) (cvI H.1 (m11_itemY H (by omega)) (csI (m11_dirY d) ?_))))
  rw [xa, ya]
  refine cvIq H.1 (m11_fits H P.1 (P.1.item hj) _ _ _) fun r h16 q16 => ?_
  obtain ⟨e16, ⟨m1, m2, H16⟩, f16⟩ := q16
  have efit : rFit σ (rit σ j).1 ((rit σ j).2.1 + dxR d) ((rit σ j).2.2 + dyR d) (Int32.ofNat j) = rFitT σ j d 1 := by
    unfold rFitT; rw [psn_succ, psn_zero]
  replace e16 := e16.trans (congrArg bI efit)
  refine ⟨fun c => ?_, fun c => ?_⟩
  · rw [if_pos (bI_true fun q => c (e16.trans q))]
    refine cvVq H16.1 (m11_note H16 P) fun h18 q18 => ?_
    obtain ⟨pt, n', H18, P18, f18⟩ := q18
    refine cvIq H18.1 (m11_slides H18 P18.1 hj hE) fun r h20 q20 => ?_
    obtain ⟨e20, ⟨z', s, H20, P20, -⟩, f20⟩ := q20
    exact Rq.mk e20.symm ⟨_, _, H20, P18.s P20, T⟩ ((f16.weak (by omega) (by omega)).trans ((f18.weak (by omega) (by omega)).trans (f20.weak (by omega) (by omega))))
  · have e0 : rFitT σ j d 1 = false := bI0.mp (e16.symm.trans c)
    rw [e0, if_neg Bool.false_ne_true]
    exact Rq.mk rfl ⟨_, k, H16, P, T⟩ (f16.weak (by omega) (by omega))
theorem m11_canCompact (H : MoZ h z k) (P : RsF (sA k) σ) : sX11_canCompact E [aP (some 313)] h (kI fun r h' => r = bI (rCan σ) ∧ (∃ n1 n2, MoZ h' (zN z n1 n2) k) ∧ Fr 313 314 h h') := by
  have hn := P.1.2
  refine uX11_canCompact (fun m h' l0 l1 l2 => ∃ j ok n1 n2, m = 20 - j ∧ l0 = some 313 ∧ l1 = bI ok ∧ l2 = Int32.ofNat j ∧ j ≤ σ.2.1.length ∧ MoZ h' (zN z n1 n2) k ∧ Fr 313 314 h h' ∧ ok = (List.range j).any fun i => rFit σ (rit σ i).1 (rit σ i).2.1 ((rit σ i).2.2 - 1) (Int32.ofNat i) || rFit σ (rit σ i).1 ((rit σ i).2.1 - 1) (rit σ i).2.2 (Int32.ofNat i)) ?_ ?_
  · unfold PX11_canCompact_0
    exact ⟨_, 0, false, z.1, z.2.1, rfl, rfl, rfl, rfl, Nat.zero_le _, H, Fr.refl, rfl⟩
  · rintro m h' l0 l1 l2 ⟨j, ok, n1, n2, rfl, rfl, rfl, rfl, hj, H', f, eo⟩
    unfold PX11_canCompact_4
    refine (rdP_iff H'.1).mpr ⟨_, rfl, H'.ld (i := 3) (by omega) ?_⟩
    rw [P.2.2.1]
    refine ⟨fun c => ?_, fun c => ⟨fun c1 => ?_, fun c1 => ?_⟩⟩
    · have c := (i32_le (by omega) (by omega)).mp c
      have : j = σ.2.1.length := by omega
      subst this
      exact ⟨bI01, _, rfl, by rw [eo]; rfl, ⟨n1, n2, H'⟩, f⟩
    · have c := mt (i32_le (i := σ.2.1.length) (j := j) (by omega) (by omega)).mpr c
      have o1 := bI_true c1
      rw [o1] at eo
      exact ⟨_, by omega, j + 1, true, n1, n2, rfl, rfl, rfl, i32_s _, by omega, H', f, by rw [any_succ', ← eo]; rfl⟩
    · have c := mt (i32_le (i := σ.2.1.length) (j := j) (by omega) (by omega)).mpr c
      have hjj : j < σ.2.1.length := by omega
      have o0 := bI0.mp c1
      rw [o0] at eo
      obtain ⟨xa, ya⟩ := P.ix hjj
      refine csI (m11_itemShape j) (cvI H'.1 (m11_itemX H' (by omega)) (cvI H'.1 (m11_itemY H' (by omega)) ?_))
      rw [xa, ya]
      refine cvIq H'.1 (m11_fits H' P (P.item hjj) _ _ _) fun r h10 q10 => ?_
      obtain ⟨e10, ⟨m1, m2, H10⟩, f10⟩ := q10
      refine ⟨fun c9 => ?_, fun c9 => ?_⟩
      · have e1 := bI_true fun q => c9 (e10.trans q)
        refine ⟨_, by omega, j + 1, true, m1, m2, rfl, rfl, rfl, i32_s _, hjj, H10, f.trans f10, ?_⟩
        rw [any_succ', ← eo, e1]; rfl
      · have e1 := bI0.mp (e10.symm.trans c9)
        refine csI (m11_itemShape j) (cvI H10.1 (m11_itemX H10 (by omega)) (cvI H10.1 (m11_itemY H10 (by omega)) ?_))
        rw [xa, ya]
        refine cvIq H10.1 (m11_fits H10 P (P.item hjj) _ _ _) fun r h18 q18 => ?_
        obtain ⟨e18, ⟨m3, m4, H18⟩, f18⟩ := q18
        refine ⟨fun c17 => ?_, fun c17 => ?_⟩
        · have e2 := bI0.mp (e18.symm.trans c17)
          refine ⟨_, by omega, j + 1, false, m3, m4, rfl, rfl, rfl, i32_s _, hjj, H18, (f.trans f10).trans f18, ?_⟩
          rw [any_succ', ← eo, e1, e2]; rfl
        · have e2 := bI_true fun q => c17 (e18.trans q)
          refine ⟨_, by omega, j + 1, true, m3, m4, rfl, rfl, rfl, i32_s _, hjj, H18, (f.trans f10).trans f18, ?_⟩
          rw [any_succ', ← eo, e1, e2]; rfl
variable {Gd : RV → Prop} {pot : RV → Nat}
theorem rcOne_len {i : Nat} {d : Int32} : (rcOne σ i d).2.1.length = σ.2.1.length := List.length_set ..
theorem rcR_len {j : Nat} : (rcR σ j).1.2.1.length = σ.2.1.length := by
  induction j with
  | zero => rfl
  | succ j ih =>
    rw [rcR_succ]
    show (rcOne (rcOne (rcR σ j).1 j 6) j 4).2.1.length = _
    rw [rcOne_len, rcOne_len, ih]
theorem rcR_good (C : Cmp Gd pot) (g : Gd σ) {j : Nat} (hj : j ≤ σ.2.1.length) : Gd (rcR σ j).1 ∧ pot (rcR σ j).1 + (rcR σ j).2 ≤ pot σ := by
  induction j with
  | zero => exact ⟨g, Nat.le_refl _⟩
  | succ j ih =>
    obtain ⟨i1, i2⟩ := ih (by omega)
    have l1 : (rcR σ j).1.2.1.length = σ.2.1.length := rcR_len
    have k1 := C.2.1 _ j 6 i1 (by omega) (Or.inr rfl)
    have k2 := C.2.1 _ j 4 k1 (by rw [rcOne_len]; omega) (Or.inl rfl)
    have p1 := C.2.2.1 _ j 6 i1 (by omega) (Or.inr rfl)
    have p2 := C.2.2.1 _ j 4 k1 (by rw [rcOne_len]; omega) (Or.inl rfl)
    rw [rcR_succ]
    refine ⟨k2, ?_⟩
    show pot (rcOne (rcOne (rcR σ j).1 j 6) j 4) + ((rcR σ j).2 + slN (rcR σ j).1 j 6 + slN (rcOne (rcR σ j).1 j 6) j 4) ≤ _
    omega
theorem m11_compact (H : Mrf h cs σ ps) (C : Cmp Gd pot) (g : Gd σ) {F : Nat} (hF : 100000 ≤ F) : sX11_compact E [aP (some 313)] h (Rq cs (rCompact σ ps F).2.1 (rCompact σ ps F).2.2 h (rCompact σ ps F).1) := by
  obtain ⟨z0, k0, H0, P0, T0⟩ := H
  have hn := P0.1.1.2
  have hps := C.2.2.2 σ g
  refine uX11_compact (fun m h' l0 l1 l2 => ∃ (z : Sc) (k : MK) (τ : RV) (t f : Nat) (lz : Bool), m = 2 * pot τ * 100 + (if lz = true then 0 else 100 * 2) ∧ l0 = some 313 ∧ l1 = Int32.ofNat t ∧ (l2 ≤ 0 ↔ lz = true) ∧ MoZ h' z k ∧ MsK k τ (pushR ps σ) ∧ TxR k cs ∧ Fr 313 323 h h' ∧ rCan σ = true ∧ Gd τ ∧ t + pot τ ≤ pot σ ∧ τ.2.1.length = σ.2.1.length ∧ (if lz = true then (τ, t) = rcGo F σ 0 else pot τ < f ∧ rcGo f τ t = rcGo F σ 0))
    (fun m h' l0 l1 l2 l3 => ∃ j z k τ t f, m = 2 * pot τ * 100 + 100 + (50 - j) ∧ l0 = some 313 ∧ l1 = Int32.ofNat t ∧ l2 = Int32.ofNat (rcR τ j).2 ∧ l3 = Int32.ofNat j ∧ j ≤ σ.2.1.length ∧ MoZ h' z k ∧ MsK k (rcR τ j).1 (pushR ps σ) ∧ TxR k cs ∧ Fr 313 323 h h' ∧ rCan σ = true ∧ Gd τ ∧ t + pot τ ≤ pot σ ∧ τ.2.1.length = σ.2.1.length ∧ pot τ < f ∧ rcGo f τ t = rcGo F σ 0) ?_ ?_ ?_
  · unfold PX11_compact_0
    refine cvIq H0.1 (m11_canCompact H0 P0.1) fun r h2 q2 => ?_
    obtain ⟨e2, ⟨m1, m2, H2⟩, f2⟩ := q2
    refine ⟨fun c => ?_, fun c => ?_⟩
    · have e1 := bI_true fun q => c (e2.trans q)
      refine cvVq H2.1 (m11_note H2 P0) fun h4 q4 => ?_
      obtain ⟨pt, n, H4, P4, f4⟩ := q4
      exact ⟨_, _, _, σ, 0, F, false, rfl, rfl, rfl, ⟨fun q => absurd q (by decide), fun q => absurd q (by decide)⟩, H4, P4, T0, (f2.weak (by omega) (by omega)).trans (f4.weak (by omega) (by omega)), e1, g, by omega, rfl, by rw [if_neg Bool.false_ne_true]; exact ⟨by omega, rfl⟩⟩
    · have e0 := bI0.mp (e2.symm.trans c)
      unfold rCompact; rw [e0, if_neg Bool.false_ne_true]
      exact Rq.mk rfl ⟨_, k0, H2, P0, T0⟩ (f2.weak (by omega) (by omega))
  · rintro m h' l0 l1 l2 ⟨z, k, τ, t, f, lz, rfl, rfl, rfl, hl, H, P, T, fr, hc, gt, hp, hlen, hgo⟩
    unfold PX11_compact_18
    refine ⟨fun c => ?_, fun c => ?_⟩
    · have e := hl.mp c
      rw [if_pos e] at hgo
      unfold rCompact; rw [if_pos hc, ← hgo]
      exact Rq.mk rfl ⟨z, k, H, P, T⟩ fr
    · have e : ¬ lz = true := fun q => c (hl.mpr q)
      rw [if_neg e] at hgo ⊢
      exact ⟨_, by omega, 0, z, k, τ, t, f, rfl, rfl, rfl, rfl, rfl, Nat.zero_le _, H, P, T, fr, hc, gt, hp, hlen, hgo.1, hgo.2⟩
  · rintro m h' l0 l1 l2 l3 ⟨j, z, k, τ, t, f, rfl, rfl, rfl, rfl, rfl, hj, H, P, T, fr, hc, gt, hp, hlen, hf, hgo⟩
    unfold PX11_compact_26
    have G := rcR_good C gt (j := j) (by omega)
    refine (rdP_iff H.1).mpr ⟨_, rfl, H.ld (i := 3) (by omega) ?_⟩
    have rl : (rcR τ j).1.2.1.length = σ.2.1.length := rcR_len.trans hlen
    rw [P.1.2.2.1, rl]
    refine ⟨fun c => ?_, fun c => ?_⟩
    · have c := (i32_le (by omega) (by omega)).mp c
      have : j = τ.2.1.length := by omega
      subst this
      rintro _ rfl
      rw [i32_add]
      obtain ⟨f, rfl⟩ : ∃ q, f = q + 1 := ⟨f - 1, by omega⟩
      rw [rcGo_succ] at hgo
      by_cases z0 : (rcR τ τ.2.1.length).2 = 0
      · rw [if_pos z0] at hgo
        refine ⟨_, ?_, z, k, (rcR τ τ.2.1.length).1, t, f, true, rfl, rfl, by rw [z0, Nat.add_zero], ⟨fun _ => rfl, fun _ => by rw [z0]; decide⟩, H, P, T, fr, hc, G.1, by omega, rl, by rw [if_pos rfl]; exact hgo⟩
        rw [if_pos rfl]; omega
      · rw [if_neg z0] at hgo
        refine ⟨_, ?_, z, k, (rcR τ τ.2.1.length).1, t + (rcR τ τ.2.1.length).2, f, false, rfl, rfl, rfl, ⟨fun q => ?_, fun q => absurd q (by decide)⟩, H, P, T, fr, hc, G.1, by omega, rl, ?_⟩
        · simp only [Bool.false_eq_true, if_false]; omega
        · have := (i32_le (j := 0) (by omega) (by omega)).mp q
          omega
        · rw [if_neg Bool.false_ne_true]; exact ⟨by omega, hgo⟩
    · have c := mt (i32_le (i := σ.2.1.length) (j := j) (by omega) (by omega)).mpr c
      have s6 := slN_spec (C.1 _ j 6 G.1 (by omega) (Or.inr rfl))
      have g1 := C.2.1 _ j 6 G.1 (by omega) (Or.inr rfl)
      have s4 := slN_spec (C.1 _ j 4 g1 (by rw [rcOne_len]; omega) (Or.inl rfl))
      refine cvIq H.1 (m11_slides H P.1 (by omega) s6) fun r h4 q4 => ?_
      obtain ⟨e4, ⟨z4, s, H4, R4, -⟩, f4⟩ := q4
      rintro _ rfl
      refine cvIq H4.1 (m11_slides H4 R4 (i := j) (by show j < (rcOne (rcR τ j).1 j 6).2.1.length; rw [rcOne_len]; omega) s4) fun r' h7 q7 => ?_
      obtain ⟨e7, ⟨z7, s7, H7, R7, -⟩, f7⟩ := q7
      rintro _ rfl
      have er : Int32.ofNat (rcR τ j).2 + r + r' = Int32.ofNat (rcR τ (j + 1)).2 := by
        rw [e4, e7, i32_add, i32_add, rcR_succ]; rfl
      rw [er]
      refine ⟨_, by omega, j + 1, z7, _, τ, t, f, rfl, rfl, rfl, rfl, i32_s _, by omega, H7, ?_, T, (fr.trans (f4.weak (by omega) (by omega))).trans (f7.weak (by omega) (by omega)), hc, gt, hp, hlen, hf, hgo⟩
      rw [rcR_succ]
      exact ⟨R7, P.2⟩
end RN
