/-! the reference finds the lowest place, places, places turned -/
def bxR (S : SH) (w hh : Int32) : BX := (hgP S (-1) 0, hgP S 0 (-1), w - hgP S 1 0, hh - hgP S 0 1)
def rFB (σ : RV) (S : SH) (k : Nat × Nat) : Bool := rFit σ S (atB (bxR S σ.2.2.1 σ.2.2.2.1) k).1 (atB (bxR S σ.2.2.1 σ.2.2.2.1) k).2 (-1000009)
def rFind (σ : RV) (S : SH) : Option (Nat × Nat) := (pre (nxB (bxR S σ.2.2.1 σ.2.2.2.1)) (nyB (bxR S σ.2.2.1 σ.2.2.2.1)) 0).find? (rFB σ S)
noncomputable def rErr (σ : RV) (x : Int32) : Int32 := ifC (Slt x) (ifC (slR σ x = []) (-1000002) (if σ.2.1.length = 8 then -1000003 else 0)) (-1000001)
def rAdd (σ : RV) (S : SH) (v : PT) : RV := (σ.1, σ.2.1 ++ [(S, v.1, v.2)], σ.2.2)
noncomputable def rPlace (σ : RV) (ps : List RV) (x u v : Int32) : Int32 × RV × List RV := ifC (Slt x ∧ Nea u ∧ Nea v) (ifC (slR σ x = []) (-1000002, σ, ps) (if rFit σ (slR σ x) u v (-1000009) = true then (if σ.2.1.length = 8 then (-1000003, σ, ps) else (Int32.ofNat σ.2.1.length, rAdd σ (slR σ x) (u, v), pushR ps σ)) else (-1000002, σ, ps))) (-1000001, σ, ps)
noncomputable def rPlaceBL (σ : RV) (ps : List RV) (x : Int32) : Int32 × RV × List RV := if 0 ≤ rErr σ x then (match rFind σ (slR σ x) with | none => (-1000009, σ, ps) | some q => (Int32.ofNat σ.2.1.length, rAdd σ (slR σ x) (atB (bxR (slR σ x) σ.2.2.1 σ.2.2.2.1) q), pushR ps σ)) else (rErr σ x, σ, ps)
section RF
variable {E : EV} {h : AH} {z : Sc} {k : MK} {cs : List Int32} {σ : RV} {ps : List RV} {b : Nat} {S : SH}
theorem m11_isPlace (u v : Int32) : sX11_isPlace E [aI u, aI v] h (kI fun r h' => r = ifC (Nea u ∧ Nea v) 1 0 ∧ h' = h) := by
  refine eX11_isPlace ?_
  unfold PX11_isPlace_0
  refine csI (m11_in u (-60) 60) ⟨fun c1 => ⟨_, rfl, (ifC_neg fun q => ifC0 rfl c1 q.1).symm, rfl⟩, fun c1 => csI (m11_in v (-60) 60) ⟨fun c2 => ⟨_, rfl, (ifC_neg fun q => ifC0 rfl c2 q.2).symm, rfl⟩, fun c2 => ⟨_, rfl, (ifC_pos ⟨ifC1 rfl c1, ifC1 rfl c2⟩).symm, rfl⟩⟩⟩
theorem m11_refuses (H : MoZ h z k) (P : RsF (sA k) σ) (x : Int32) : sX11_refuses E [aP (some 313), aI x] h (kI fun r h' => r = rErr σ x ∧ h' = h) := by
  refine eX11_refuses ?_
  unfold PX11_refuses_0
  have hn := P.1.2
  refine csI (m11_isSlot x) ⟨fun c1 => ?_, fun c1 => ⟨_, rfl, (by unfold rErr; rw [ifC_neg (ifC0 rfl c1)]), rfl⟩⟩
  have sl := ifC1 rfl c1
  obtain ⟨j, rfl, hj, ej⟩ := sl.ex
  unfold rErr slR; rw [ifC_pos sl, ej]
  refine cvI H.1 (m11_isEmpty H (P.slot hj)) ⟨fun c2 => (rdP_iff H.1).mpr ⟨_, rfl, H.ld (i := 3) (by omega) ?_⟩, fun c2 => ⟨_, rfl, (ifC_pos (r01 rfl c2)).symm, rfl⟩⟩
  rw [P.2.2.1, ifC_neg (r00 rfl c2)]
  refine ⟨fun c3 => ⟨_, rfl, (if_neg fun q => c3 (by rw [q]; rfl)).symm, rfl⟩, fun c3 => ⟨_, rfl, (if_pos (i32_inj (n := 8) (by omega) (by omega) c3)).symm, rfl⟩⟩
theorem m11_finds (H : MoZ h z k) (P : RsF (sA k) σ) (B : Blk k b S) (hb : SmB (bxR S σ.2.2.1 σ.2.2.2.1)) : sX11_finds E [aP (some 313), aI (Int32.ofNat b)] h (kI fun r h' => r = (if (rFind σ S).isSome = true then 1 else 0) ∧ (∃ z', MoZ h' z' k ∧ ∀ q, rFind σ S = some q → (zT z').2.2.2.2.1 = (atB (bxR S σ.2.2.1 σ.2.2.2.1) q).1 ∧ (zT z').2.2.2.2.2.1 = (atB (bxR S σ.2.2.1 σ.2.2.2.1) q).2) ∧ Fr 313 314 h h') := by
  obtain ⟨b1, b2, b3, b4, b5, b6, b7, b8⟩ := hb
  have hN : rFind σ S = (pre (nxB (bxR S σ.2.2.1 σ.2.2.2.1)) (nyB (bxR S σ.2.2.1 σ.2.2.2.1)) 0).find? (rFB σ S) := rfl
  have hF : ∀ i j, rFB σ S (i, j) = rFit σ S ((bxR S σ.2.2.1 σ.2.2.2.1).1 + Int32.ofNat j) ((bxR S σ.2.2.1 σ.2.2.2.1).2.1 + Int32.ofNat i) (-1000009) := fun _ _ => rfl
  have hA : ∀ q, atB (bxR S σ.2.2.1 σ.2.2.2.1) q = ((bxR S σ.2.2.1 σ.2.2.2.1).1 + Int32.ofNat q.2, (bxR S σ.2.2.1 σ.2.2.2.1).2.1 + Int32.ofNat q.1) := fun _ => rfl
  have e1 : (bxR S σ.2.2.1 σ.2.2.2.1).1 = hgP S (-1) 0 := rfl
  have e2 : (bxR S σ.2.2.1 σ.2.2.2.1).2.1 = hgP S 0 (-1) := rfl
  have e3 : σ.2.2.1 - hgP S 1 0 = (bxR S σ.2.2.1 σ.2.2.2.1).2.2.1 := rfl
  have e4 : σ.2.2.2.1 - hgP S 0 1 = (bxR S σ.2.2.1 σ.2.2.2.1).2.2.2 := rfl
  generalize bxR S σ.2.2.1 σ.2.2.2.1 = bx at *
  have ex : nxB bx = (bx.2.2.1.toInt - bx.1.toInt + 1).toNat := rfl
  have ey : nyB bx = (bx.2.2.2.toInt - bx.2.1.toInt + 1).toNat := rfl
  refine uX11_finds (fun m h' l0 l1 l2 => ∃ i n1 n2, m = (nyB bx - i) * 100000 ∧ i ≤ nyB bx ∧ l0 = some 313 ∧ l1 = Int32.ofNat b ∧ l2 = bx.2.1 + Int32.ofNat i ∧ MoZ h' (zN z n1 n2) k ∧ Fr 313 314 h h' ∧ (pre (nxB bx) i 0).find? (rFB σ S) = none)
    (fun m h' l0 l1 l2 l3 => ∃ i j n1 n2, m = (nyB bx - i) * 100000 - 1 - j ∧ i < nyB bx ∧ j ≤ nxB bx ∧ l0 = some 313 ∧ l1 = Int32.ofNat b ∧ l2 = bx.2.1 + Int32.ofNat i ∧ l3 = bx.1 + Int32.ofNat j ∧ MoZ h' (zN z n1 n2) k ∧ Fr 313 314 h h' ∧ (pre (nxB bx) i j).find? (rFB σ S) = none) ?_ ?_ ?_
  · unfold PX11_finds_0
    refine cvI H.1 (m11_highest H B 0 (-1)) ?_
    rw [← e2]
    exact ⟨_, 0, z.1, z.2.1, rfl, Nat.zero_le _, rfl, rfl, i32_a0, H, Fr.refl, rfl⟩
  · rintro m h' l0 l1 l2 ⟨i, n1, n2, rfl, hi, rfl, rfl, rfl, H', f, hn⟩
    unfold PX11_finds_8
    have rl := row_lt (k := i) b3 b4 b7 b8 (by omega)
    refine (rdP_iff H'.1).mpr ⟨_, rfl, H'.ld (i := 1) (by omega) ?_⟩
    rw [P.2.1.2.1]
    refine cvI H'.1 (m11_highest H' B 0 1) ?_
    rw [e4]
    refine ⟨fun c => ?_, fun c => ?_⟩
    · have hii := rl.mp c
      rw [← ey] at hii
      subst hii
      rw [hN, hn]
      exact ⟨_, rfl, rfl, ⟨_, H', fun q hq => by cases hq⟩, f⟩
    · have hii : i < nyB bx := by have := mt rl.mpr c; omega
      refine cvI H'.1 (m11_highest H' B (-1) 0) ?_
      rw [← e1]
      exact ⟨_, by omega, i, 0, n1, n2, rfl, hii, Nat.zero_le _, rfl, rfl, rfl, i32_a0, H', f, hn⟩
  · rintro m h' l0 l1 l2 l3 ⟨i, j, n1, n2, rfl, hi, hj, rfl, rfl, rfl, rfl, H', f, hn⟩
    unfold PX11_finds_34
    have rl := row_lt (k := j) b1 b2 b5 b6 (by omega)
    refine (rdP_iff H'.1).mpr ⟨_, rfl, H'.ld (i := 0) (by omega) ?_⟩
    rw [P.2.1.1]
    refine cvI H'.1 (m11_highest H' B 1 0) ?_
    rw [e3]
    refine ⟨fun c => ?_, fun c => ?_⟩
    · have hjj := rl.mp c
      rw [← ex] at hjj
      subst hjj
      exact ⟨(nyB bx - (i + 1)) * 100000, by omega, i + 1, n1, n2, rfl, hi, rfl, rfl, i32_sa, H', f, by rw [← pre_row]; exact hn⟩
    · have hjj : j < nxB bx := by have := mt rl.mpr c; omega
      refine cvIq H'.1 (m11_fits H' P B _ _ _) fun r h6 q6 => ?_
      obtain ⟨er, ⟨m1, m2, H6⟩, f6⟩ := q6
      refine ⟨fun c2 => ?_, fun c2 => ?_⟩
      · have hf : ¬ rFB σ S (i, j) = true := fun q => by rw [hF] at q; rw [c2, q] at er; exact absurd er (by decide)
        refine ⟨(nyB bx - i) * 100000 - 1 - (j + 1), by omega, i, j + 1, m1, m2, rfl, hi, hjj, rfl, rfl, rfl, i32_sa, H6, f.trans f6, ?_⟩
        rw [pre_succ, List.find?_append, hn, List.find?_cons_of_neg hf]; rfl
      · have hf : rFB σ S (i, j) = true := by rw [hF]; exact bI_true fun q => c2 (er.trans q)
        obtain ⟨r', er'⟩ := pre_pre (k := nxB bx) hi hjj
        have hfind : rFind σ S = some (i, j) := by
          rw [hN, er', List.find?_append, hn, List.find?_cons_of_pos hf]; rfl
        refine (wr_iff H6.1).mpr ⟨Nat.le_of_ble_eq_true rfl, (wr_iff (gs H6.1)).mpr ⟨Nat.le_of_ble_eq_true rfl, ?_⟩⟩
        rw [List.set_set, hfind]
        refine ⟨_, rfl, rfl, ⟨_, H6.set (zU (zN z m1 m2) ((zT z).1, (zT z).2.1, (zT z).2.2.1, (zT z).2.2.2.1, bx.1 + Int32.ofNat j, bx.2.1 + Int32.ofNat i, (zT z).2.2.2.2.2.2)), fun q hq => ?_⟩, (f.trans f6).trans fr313⟩
        cases hq
        rw [hA]; exact ⟨rfl, rfl⟩
theorem rAdd_def {v : PT} : rAdd σ S v = (σ.1, σ.2.1 ++ [(S, v.1, v.2)], σ.2.2) := rfl
theorem m11_place (H : Mrf h cs σ ps) (x u v : Int32) : sX11_place E [aP (some 313), aI x, aI u, aI v] h (Rq cs (rPlace σ ps x u v).2.1 (rPlace σ ps x u v).2.2 h (rPlace σ ps x u v).1) := by
  obtain ⟨z, k, H, P, T⟩ := H
  have hn := P.1.1.2
  refine eX11_place ?_
  unfold PX11_place_0
  have bad : ¬ (Slt x ∧ Nea u ∧ Nea v) → Rq cs (rPlace σ ps x u v).2.1 (rPlace σ ps x u v).2.2 h (rPlace σ ps x u v).1 (some (aI (-1000001))) h := fun q => by
    unfold rPlace; rw [ifC_neg q]; exact Rq.mk rfl ⟨z, k, H, P, T⟩ Fr.refl
  refine csI (m11_isSlot x) ⟨fun c1 => bad fun q => ifC0 rfl c1 q.1, fun c1 => csI (m11_isPlace u v) ⟨fun c2 => ?_, fun c2 => bad fun q => ifC0 rfl c2 q.2⟩⟩
  have ok : Slt x ∧ Nea u ∧ Nea v := ⟨ifC1 rfl c1, ifC1 rfl c2⟩
  obtain ⟨j, rfl, hj, ej⟩ := ok.1.ex
  unfold rPlace slR; rw [ifC_pos ok, ej]
  refine cvI H.1 (m11_isEmpty H (P.1.slot hj)) ⟨fun c3 => ?_, fun c3 => csI (m11_slotAt j) ?_⟩
  · rw [ifC_pos (r01 rfl c3)]
    exact Rq.mk rfl ⟨z, k, H, P, T⟩ Fr.refl
  · rw [ifC_neg (r00 rfl c3)]
    refine cvIq H.1 (m11_fits H P.1 (P.1.slot hj) _ _ _) fun r h6 q6 => ?_
    obtain ⟨er, ⟨m1, m2, H6⟩, f6⟩ := q6
    refine ⟨fun c6 => ?_, fun c6 => ?_⟩
    · rw [if_pos (bI_true fun q => c6 (er.trans q))]
      refine (rdP_iff H6.1).mpr ⟨_, rfl, H6.ld (i := 3) (by omega) ?_⟩
      rw [P.1.2.2.1]
      refine ⟨fun c7 => ?_, fun c7 => ?_⟩
      · have n8 : ¬ σ.2.1.length = 8 := fun q => c7 (by rw [q]; rfl)
        rw [if_neg n8]
        refine cvVq H6.1 (m11_note H6 P) fun h8 q8 => ?_
        obtain ⟨pt, n, H8, P8, f8⟩ := q8
        refine csI (m11_slotAt j) (cvIq H8.1 (m11_puts H8 P8.1 (by omega) (P8.1.slot hj) (by omega) u v) fun r9 h9 q9 => ?_)
        obtain ⟨e9, s, H9, R9, -, f9⟩ := q9
        exact Rq.mk e9.symm ⟨_, _, H9, P8.s R9, T⟩ ((f6.weak (by omega) (by omega)).trans ((f8.weak (by omega) (by omega)).trans (f9.weak (by omega) (by omega))))
      · rw [if_pos (i32_inj (n := 8) (by omega) (by omega) c7)]
        exact Rq.mk rfl ⟨_, k, H6, P, T⟩ (f6.weak (by omega) (by omega))
    · rw [if_neg fun q => by rw [q] at er; rw [c6] at er; exact absurd er (by decide)]
      exact Rq.mk rfl ⟨_, k, H6, P, T⟩ (f6.weak (by omega) (by omega))
theorem rErr0 {x : Int32} (h : 0 ≤ rErr σ x) : Slt x ∧ ¬ slR σ x = [] ∧ ¬ σ.2.1.length = 8 := by
  unfold rErr at h
  by_cases c1 : Slt x
  · rw [ifC_pos c1] at h
    by_cases c2 : slR σ x = []
    · rw [ifC_pos c2] at h; exact absurd h (by decide)
    · rw [ifC_neg c2] at h
      by_cases c3 : σ.2.1.length = 8
      · rw [if_pos c3] at h; exact absurd h (by decide)
      · exact ⟨c1, c2, c3⟩
  · rw [ifC_neg c1] at h; exact absurd h (by decide)
theorem m11_placeBL (H : Mrf h cs σ ps) (x : Int32) (hb : Slt x → ¬ slR σ x = [] → SmB (bxR (slR σ x) σ.2.2.1 σ.2.2.2.1)) : sX11_placeBottomLeft E [aP (some 313), aI x] h (Rq cs (rPlaceBL σ ps x).2.1 (rPlaceBL σ ps x).2.2 h (rPlaceBL σ ps x).1) := by
  obtain ⟨z, k, H, P, T⟩ := H
  have hn := P.1.1.2
  refine eX11_placeBottomLeft ?_
  unfold PX11_placeBottomLeft_0
  refine cvI H.1 (m11_refuses H P.1 x) ⟨fun c1 => ?_, fun c1 => ?_⟩
  · obtain ⟨sl, ne, n8⟩ := rErr0 c1
    have hb := hb sl ne
    obtain ⟨j, rfl, hj, ej⟩ := sl.ex
    unfold rPlaceBL; rw [if_pos c1]
    unfold slR at hb ne ⊢
    rw [ej] at hb ne ⊢
    refine csI (m11_slotAt j) (cvIq H.1 (m11_finds H P.1 (P.1.slot hj) hb) fun r h6 q6 => ?_)
    obtain ⟨er, ⟨z6, H6, hz⟩, f6⟩ := q6
    cases hf : rFind σ (σ.1.getD j []) with
    | none =>
      rw [hf] at er
      refine ⟨fun c6 => absurd er c6, fun c6 => Rq.mk rfl ⟨_, k, H6, P, T⟩ (f6.weak (by omega) (by omega))⟩
    | some q =>
      rw [hf] at er
      refine ⟨fun c6 => ?_, fun c6 => ?_⟩
      · obtain ⟨ea, eb⟩ := hz q hf
        refine cvVq H6.1 (m11_note H6 P) fun h8 q8 => ?_
        obtain ⟨pt, n, H8, P8, f8⟩ := q8
        refine csI (m11_slotAt j) ((rdI_iff H8.1).mpr ⟨_, rfl, (rdI_iff H8.1).mpr ⟨_, rfl, ?_⟩⟩)
        rw [ea, eb]
        refine cvIq H8.1 (m11_puts H8 P8.1 (by omega) (P8.1.slot hj) (by omega) _ _) fun r9 h9 q9 => ?_
        obtain ⟨e9, s, H9, R9, -, f9⟩ := q9
        exact Rq.mk e9.symm ⟨_, _, H9, P8.s R9, T⟩ ((f6.weak (by omega) (by omega)).trans ((f8.weak (by omega) (by omega)).trans (f9.weak (by omega) (by omega))))
      · rw [er] at c6; exact absurd (show (1 : Int32) = 0 from c6) (by decide)
  · unfold rPlaceBL; rw [if_neg c1]
    exact Rq.mk rfl ⟨z, k, H, P, T⟩ Fr.refl
end RF
