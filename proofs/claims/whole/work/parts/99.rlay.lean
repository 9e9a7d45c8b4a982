/-! the reference lays a layout -/
def rllGo (σ : RV) : List LI → List RI → Option (List RI)
  | [], acc => some acc
  | v :: L, acc => if (slR σ v.1).isEmpty = false ∧ acc.length < 8 ∧ rFit (σ.1, acc, σ.2.2) (slR σ v.1) v.2.1 v.2.2 (-1000009) = true then rllGo σ L (acc ++ [(slR σ v.1, v.2.1, v.2.2)]) else none
noncomputable def rLay (cs : List Int32) (σ : RV) (ps : List RV) : Int32 × List Int32 × RV × List RV :=
  if (lyR cs).1 = true then (match rllGo σ (lyR cs).2.2 [] with
      | none => (-1000002, cs, σ, ps)
      | some its => (Int32.ofNat (lyR cs).2.2.length, [], (σ.1, its, σ.2.2), pushR ps σ))
  else (-10 - Int32.ofNat (lyR cs).2.1, cs, σ, ps)
section RL
variable {E : EV} {h : AH} {z : Sc} {k : MK} {cs : List Int32} {σ : RV} {ps : List RV} {L : List LI}
theorem LaO.ld (H : LaO h L) {j : Nat} (hj : j < L.length) : ∃ v, h[321]? = some (.inl (0, v)) ∧ v.length = 90 ∧ v.getD (3 * j) 0 = (L.getD j (0, 0, 0)).1 ∧ v.getD (3 * j + 1) 0 = (L.getD j (0, 0, 0)).2.1 ∧ v.getD (3 * j + 2) 0 = (L.getD j (0, 0, 0)).2.2 := by
  obtain ⟨v, h1, h2, h3, h4⟩ := H
  have e := h4 j hj
  exact ⟨v, h1, h2, congrArg Prod.fst e, congrArg (fun q => q.2.1) e, congrArg (fun q => q.2.2) e⟩
theorem MoZ.aux (H : MoZ h z k) {w : List Int32} (lw : w.length = 500) : MoZ (h.set 322 (.inl (0, w))) z k := by
  obtain ⟨a0, a1, a2, a3, a4, a5, a6, a7, a8, v, a9⟩ := H
  have ff : Fr 322 323 h (h.set 322 (.inl (0, w))) := Fr.set (by omega) (by omega)
  exact ⟨(ff.2 _ (by omega)).trans a0, ⟨(ff.2 _ (by omega)).trans a1.1, a1.2⟩, ⟨(ff.2 _ (by omega)).trans a2.1, a2.2⟩, ⟨(ff.2 _ (by omega)).trans a3.1, a3.2⟩, a4.fr ff (by omega), a5.fr ff (by omega), a6.fr ff (by omega), a7.fr ff (by omega), a8.fr ff (by omega), ⟨w, gs a9.1, lw⟩⟩
theorem m11_loadLayout (H : Mrf h cs σ ps) (hcs : ∀ c, c ∈ cs → c ≠ -1) : sX11_loadLayout E [aP (some 313)] h (Rq (rLay cs σ ps).2.1 (rLay cs σ ps).2.2.1 (rLay cs σ ps).2.2.2 h (rLay cs σ ps).1) := by
  obtain ⟨z0, k, H0, P, T⟩ := H
  have hslt : ∀ v, v ∈ (lyR cs).2.2 → Slt v.1 := by unfold lyR; exact ly_slt fun v hv => absurd hv List.not_mem_nil
  refine uX11_loadLayout (fun m h' l0 l1 => ∃ j z w, m = 1000 - j ∧ l0 = some 313 ∧ l1 = Int32.ofNat j ∧ j ≤ 500 ∧ (lyR cs).1 = true ∧ MoZ h' z k ∧ (zT z).2.2.2.2.2.2 = Int32.ofNat (lyR cs).2.2.length ∧ LaO h' (lyR cs).2.2 ∧ h'[322]? = some (.inl (0, w)) ∧ w.length = 500 ∧ (∀ i, i < j → w.getD i 0 = sA k i) ∧ Fr 313 323 h h')
    (fun m h' l0 l1 l2 => ∃ (j : Nat) (acc : List RI) (ok : Bool) (z : Sc) (s w : List Int32), m = 100 - j ∧ l0 = some 313 ∧ l1 = bI ok ∧ l2 = Int32.ofNat j ∧ j ≤ (lyR cs).2.2.length ∧ (lyR cs).1 = true ∧ MoZ h' z (s, k.2) ∧ (zT z).2.2.2.2.2.2 = Int32.ofNat (lyR cs).2.2.length ∧ LaO h' (lyR cs).2.2 ∧ h'[322]? = some (.inl (0, w)) ∧ w.length = 500 ∧ (∀ i, i < 500 → w.getD i 0 = sA k i) ∧ (ok = true → acc.length = j ∧ RsF (sA (s, k.2)) (σ.1, acc, σ.2.2) ∧ rllGo σ ((lyR cs).2.2.drop j) acc = rllGo σ (lyR cs).2.2 []) ∧ (ok = false → rllGo σ (lyR cs).2.2 [] = none) ∧ Fr 313 323 h h') ?_ ?_ ?_
  · unfold PX11_loadLayout_0
    refine cvIq H0.1 (m11_readsLayout T hcs H0) fun r h2 q2 => ?_
    obtain ⟨e2, ⟨w', R2⟩, L2, f2⟩ := q2
    obtain ⟨z, H2, ha, hb, hl, hp⟩ := R2
    obtain ⟨w, hw, lw⟩ := H2.2.2.2.2.2.2.2.2.2
    refine ⟨fun c => ⟨_, 0, z, w, rfl, rfl, rfl, Nat.zero_le _, r01 e2 c, H2, hl, L2, hw, lw, fun i hi => absurd hi (by omega), f2.weak (by omega) (by omega)⟩, fun c => (rdI_iff H2.1).mpr ⟨_, rfl, ?_⟩⟩
    unfold rLay; rw [if_neg (r00 e2 c)]
    exact Rq.mk (by rw [ha]) ⟨z, k, H2, P, T⟩ (f2.weak (by omega) (by omega))
  · rintro m h' l0 l1 ⟨j, z, w, rfl, rfl, rfl, hj, hok, H, hl, LA, hw, lw, hs, f⟩
    unfold PX11_loadLayout_17
    refine ⟨fun c => ?_, fun c => ?_⟩
    · have c := (i32_le (i := 500) (by omega) (by omega)).mp c
      have : j = 500 := by omega
      subst this
      refine (rdP_iff H.1).mpr ⟨_, rfl, H.st (i := 3) (by omega) ?_⟩
      have l0 := H.2.1.2
      have g : ∀ i, sA (k.1.set 3 0, k.2) i = if i = 3 then 0 else sA k i := fun i => sA_set l0 (by omega)
      obtain ⟨R1, R2, R3, R4, R5⟩ := P.1
      refine ⟨_, by omega, 0, [], true, z, _, w, rfl, rfl, rfl, rfl, Nat.zero_le _, hok, H.set1 3 0, hl, LA.fr (fr4 (x := .inl (0, k.1.set 3 0))) (by omega), gsn (by omega) hw, lw, hs, fun _ => ⟨rfl, ⟨⟨R1.1, by simp⟩, ⟨(g 0).trans R2.1, (g 1).trans R2.2.1, (g 2).trans R2.2.2⟩, (g 3).trans rfl, fun q hq => (R4 q hq).same fun i h1 h2 => (g i).trans (if_neg (by omega)), fun i hi => absurd hi (by simp)⟩, by rw [List.drop_zero]⟩, fun q => absurd q (by decide), f.trans (fr4.weak (by omega) (by omega))⟩
    · have c := mt (i32_le (i := 500) (j := j) (by omega) (by omega)).mpr c
      refine (rdP_iff H.1).mpr ⟨_, rfl, (rdP_iff H.1).mpr ⟨_, rfl, H.ld (by omega) ?_⟩⟩
      refine ⟨_, _, rfl, hw, i32_nn (by omega), by rw [i32_n (by omega)]; omega, ?_⟩
      rw [i32_n (by omega)]
      have l2 : (w.set j (sA k j)).length = 500 := (List.length_set ..).trans lw
      have ff : Fr 322 323 h' (h'.set 322 (.inl (0, w.set j (sA k j)))) := Fr.set (by omega) (by omega)
      refine ⟨_, by omega, j + 1, z, _, rfl, rfl, i32_s _, by omega, hok, H.aux l2, hl, LA.fr ff (by omega), gs hw, l2, fun i hi => ?_, f.trans (ff.weak (by omega) (by omega))⟩
      rw [getD_set, lw]
      by_cases ci : i = j
      · subst ci; rw [if_pos ⟨rfl, by omega⟩]
      · rw [if_neg (by omega)]; exact hs i (by omega)
  · rintro m h' l0 l1 l2 ⟨j, acc, ok, z, s, w, rfl, rfl, rfl, rfl, hj, hok, H, hl, LA, hw, lw, hws, h1, h0, f⟩
    have len : s.length = 580 := H.2.1.2
    have exit : (ok = true → (lyR cs).2.2.length ≤ j) → PX11_loadLayout_184 E (Rq (rLay cs σ ps).2.1 (rLay cs σ ps).2.2.1 (rLay cs σ ps).2.2.2 h (rLay cs σ ps).1) h' (some 313) (bI ok) := fun hx => by
      unfold PX11_loadLayout_184
      refine cvVq H.1 (m11_exchanges H hw lw) fun h2 q2 => ?_
      obtain ⟨s2, w2, H2, hw2, lw2, e2, g2, f2⟩ := q2
      have P2 : MsK (s2, k.2) σ ps := P.s (P.1.same fun i hi => ((e2 i hi).1).trans (hws i hi))
      refine ⟨fun c => ?_, fun c => ?_⟩
      · have o1 := bI_true c
        obtain ⟨a1, a2, a3⟩ := h1 o1
        have hjj : j = (lyR cs).2.2.length := by have := hx o1; omega
        rw [hjj, List.drop_length] at a3
        have a3 : rllGo σ (lyR cs).2.2 [] = some acc := a3.symm
        refine cvVq H2.1 (m11_note H2 P2) fun h4 q4 => ?_
        obtain ⟨pt, n, H4, P4, f4⟩ := q4
        refine cvVq H4.1 (m11_exchanges H4 ((f4.2 _ (by omega)).trans hw2) lw2) fun h6 q6 => ?_
        obtain ⟨s6, w6, H6, hw6, lw6, e6, g6, f6⟩ := q6
        refine (wr_iff H6.1).mpr ⟨Nat.le_of_ble_eq_true rfl, ?_⟩
        have H7 := H6.cnt n 0
        refine (rdI_iff H7.1).mpr ⟨_, rfl, ?_⟩
        unfold rLay; rw [if_pos hok, a3]
        refine Rq.mk hl.symm ⟨z, _, H7, ⟨?_, P4.2⟩, ⟨rfl, by simp, fun j hj => absurd hj (by simp)⟩⟩ ((f.trans f2).trans ((f4.weak (by omega) (by omega)).trans (f6.trans (fr313.weak (by omega) (by omega)))))
        exact a2.same fun i hi => ((e6 i hi).1).trans (e2 i hi).2
      · have o0 := bI0.mp c
        unfold rLay; rw [if_pos hok, h0 o0]
        exact Rq.mk rfl ⟨z, _, H2, P2, T⟩ (f.trans f2)
    unfold PX11_loadLayout_53
    refine (rdI_iff H.1).mpr ⟨_, rfl, ?_⟩
    rw [hl]
    have hL : (lyR cs).2.2.length ≤ 29 := by obtain ⟨v, -, -, q, -⟩ := LA; exact q
    refine ⟨fun c => exit fun _ => (i32_le (by omega) (by omega)).mp c, fun c => ⟨fun c1 => exit fun q => by rw [q] at c1; exact absurd (show (1 : Int32) = 0 from c1) (by decide), fun c1 => ?_⟩⟩
    have c := mt (i32_le (i := (lyR cs).2.2.length) (j := j) (by omega) (by omega)).mpr c
    have o1 := bI_true c1
    obtain ⟨a1, a2, a3⟩ := h1 o1
    have hjj : j < (lyR cs).2.2.length := by omega
    obtain ⟨v, v1, v2, v3, v4, v5⟩ := LA.ld hjj
    have hs := hslt _ (getD_mem (0, 0, 0) hjj)
    have hd : (lyR cs).2.2.drop j = (lyR cs).2.2.getD j (0, 0, 0) :: (lyR cs).2.2.drop (j + 1) := by
      rw [List.drop_eq_getElem_cons hjj, List.getD_eq_getElem?_getD, List.getElem?_eq_getElem hjj]; rfl
    rw [hd] at a3
    generalize (lyR cs).2.2.getD j (0, 0, 0) = e at *
    obtain ⟨sl, hsl, hs4, es⟩ := hs.ex
    have i0 : (3 : Int32) * Int32.ofNat j = Int32.ofNat (3 * j) := by rw [Int32.ofNat_mul]; rfl
    have i1 : Int32.ofNat (3 * j) + 1 = Int32.ofNat (3 * j + 1) := i32_s _
    have i2 : Int32.ofNat (3 * j) + 2 = Int32.ofNat (3 * j + 2) := by rw [Int32.ofNat_add]; rfl
    have ld : ∀ {h2 : AH} {i : Nat} {x : Int32} {K : Int32 → Prop}, h2[321]? = some (.inl (0, v)) → i < 90 → v.getD i 0 = x → K x → aldI h2 (some 321) 0 (Int32.ofNat i) K := fun {h2 i x K} g hi ex kx => aldI_of g (i32_nn (by omega)) (by rw [i32_n (by omega)]; exact getD_get (by omega)) (by rw [ex]; exact kx)
    -- what the step adds
    have fail : (¬ ((slR σ e.1).isEmpty = false ∧ acc.length < 8 ∧ rFit (σ.1, acc, σ.2.2) (slR σ e.1) e.2.1 e.2.2 (-1000009) = true)) → ∀ h2 z2, MoZ h2 z2 (s, k.2) → (zT z2).2.2.2.2.2.2 = Int32.ofNat (lyR cs).2.2.length → Fr 313 314 h' h2 → PX11_loadLayout_130 E (Rq (rLay cs σ ps).2.1 (rLay cs σ ps).2.2.1 (rLay cs σ ps).2.2.2 h (rLay cs σ ps).1) (fun h' l0 l1 l2 => ∃ m', m' < 100 - j ∧ ∃ (j : Nat) (acc : List RI) (ok : Bool) (z : Sc) (s w : List Int32), m' = 100 - j ∧ l0 = some 313 ∧ l1 = bI ok ∧ l2 = Int32.ofNat j ∧ j ≤ (lyR cs).2.2.length ∧ (lyR cs).1 = true ∧ MoZ h' z (s, k.2) ∧ (zT z).2.2.2.2.2.2 = Int32.ofNat (lyR cs).2.2.length ∧ LaO h' (lyR cs).2.2 ∧ h'[322]? = some (.inl (0, w)) ∧ w.length = 500 ∧ (∀ i, i < 500 → w.getD i 0 = sA k i) ∧ (ok = true → acc.length = j ∧ RsF (sA (s, k.2)) (σ.1, acc, σ.2.2) ∧ rllGo σ ((lyR cs).2.2.drop j) acc = rllGo σ (lyR cs).2.2 []) ∧ (ok = false → rllGo σ (lyR cs).2.2 [] = none) ∧ Fr 313 323 h h') h2 (some 313) (Int32.ofNat j) e.1 := fun nf h2 z2 H2 hl2 f2 => by
      unfold PX11_loadLayout_130 PX11_loadLayout_131
      refine ⟨fun _ => ⟨_, by omega, j + 1, acc, false, z2, s, w, rfl, rfl, rfl, i32_s _, hjj, hok, H2, hl2, LA.fr f2 (by omega), (f2.2 _ (by omega)).trans hw, lw, hws, fun q => absurd q (by decide), fun _ => ?_, f.trans (f2.weak (by omega) (by omega))⟩, fun q => absurd rfl q⟩
      rw [← a3]
      show (if _ then _ else _) = _
      rw [if_neg nf]
    have BS : Blk (s, k.2) (4 + 40 * sl) (slR σ e.1) := by
      have := a2.slot hs4
      rw [show slR σ e.1 = σ.1.getD sl [] by unfold slR; rw [hsl, es]]
      exact this
    refine (rdP_iff H.1).mpr ⟨_, rfl, ?_⟩
    rw [i0]
    refine ld v1 (by omega) v3 ?_
    have eslot : aI e.1 = aI (Int32.ofNat sl) := by rw [hsl]
    have emp := m11_isEmpty (E := E) H BS
    rw [← eslot] at emp
    refine cvI H.1 emp ⟨fun c5 => fail (fun q => by have := r01 rfl c5; rw [this] at q; exact absurd q.1 (by decide)) h' z H hl Fr.refl, fun c5 => ?_⟩
    have ne := r00 rfl c5
    have ne' : (slR σ e.1).isEmpty = false := by
      cases g : slR σ e.1 with
      | nil => exact absurd g ne
      | cons _ _ => rfl
    refine (rdP_iff H.1).mpr ⟨_, rfl, H.ld (i := 3) (by omega) ?_⟩
    rw [show sA (s, k.2) 3 = Int32.ofNat acc.length from a2.2.2.1, a1]
    refine ⟨fun c6 => fail (fun q => by have := (i32_le (i := 8) (by omega) (by omega)).mp c6; omega) h' z H hl Fr.refl, fun c6 => ?_⟩
    have j8 : j < 8 := by have := mt (i32_le (i := 8) (j := j) (by omega) (by omega)).mpr c6; omega
    have sat := m11_slotAt (E := E) (h := h') sl
    rw [← eslot] at sat
    refine csI sat ((rdP_iff H.1).mpr ⟨_, rfl, ?_⟩)
    rw [i1, i2]
    refine ld v1 (by omega) v4 ((rdP_iff H.1).mpr ⟨_, rfl, ld v1 (by omega) v5 ?_⟩)
    refine cvIq H.1 (m11_fits H a2 BS _ _ _) fun r h16 q16 => ?_
    obtain ⟨e16, ⟨m1, m2, H16⟩, f16⟩ := q16
    refine ⟨fun c7 => ?_, fun c7 => ?_⟩
    · have b0 := bI0.mp (e16.symm.trans c7)
      exact fail (fun q => by rw [b0] at q; exact absurd q.2.2 (by decide)) h16 _ H16 hl f16
    · have b1 := bI_true fun q => c7 (e16.trans q)
      have ok' : (slR σ e.1).isEmpty = false ∧ acc.length < 8 ∧ rFit (σ.1, acc, σ.2.2) (slR σ e.1) e.2.1 e.2.2 (-1000009) = true := ⟨ne', by omega, b1⟩
      unfold PX11_loadLayout_131
      refine ⟨fun q => absurd q (by decide), fun _ => ?_⟩
      have sat := m11_slotAt (E := E) (h := h16) sl
      rw [← eslot] at sat
      have v16 := (f16.2 321 (by omega)).trans v1
      refine csI sat ((rdP_iff H16.1).mpr ⟨_, rfl, ?_⟩)
      rw [i0, i1, i2]
      refine ld v16 (by omega) v4 ((rdP_iff H16.1).mpr ⟨_, rfl, ld v16 (by omega) v5 ?_⟩)
      refine cvIq H16.1 (m11_puts H16 a2 (by show acc.length < 8; omega) BS (by omega) _ _) fun r9 h9 q9 => ?_
      obtain ⟨e9, s9, H9, R9, -, f9⟩ := q9
      have e9 : r9 = Int32.ofNat j := by rw [e9]; show Int32.ofNat acc.length = _; rw [a1]
      refine ⟨fun q => absurd e9 q, fun _ => ⟨_, by omega, j + 1, acc ++ [(slR σ e.1, e.2.1, e.2.2)], true, _, s9, w, rfl, rfl, rfl, i32_s _, hjj, hok, H9, hl, (LA.fr f16 (by omega)).fr f9 (by omega), (f9.2 _ (by omega)).trans ((f16.2 _ (by omega)).trans hw), lw, hws, fun _ => ⟨by rw [List.length_append, a1]; rfl, R9, ?_⟩, fun q => absurd q (by decide), (f.trans (f16.weak (by omega) (by omega))).trans (f9.weak (by omega) (by omega))⟩⟩
      rw [← a3]
      show _ = (if _ then _ else _)
      rw [if_pos ok']
end RL
