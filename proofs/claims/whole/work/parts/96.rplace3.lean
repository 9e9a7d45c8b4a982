/-! the reference places turned -/
abbrev TS : Type := Int32 × PT × PT
def rTv (σ : RV) (S : SH) (q : Nat × Nat) : PT := atB (bxR S σ.2.2.1 σ.2.2.2.1) q
def rTe (S : SH) (v : PT) : PT := (v.2 + hgP S 0 1, v.1 + hgP S 1 0)
def rTs (σ : RV) (S0 : SH) (s : TS) (t : Nat) : TS := match rFind σ (qtN t S0) with
  | none => s
  | some q => if (rTe (qtN t S0) (rTv σ (qtN t S0) q)).1 < s.2.2.1 ∨ (rTe (qtN t S0) (rTv σ (qtN t S0) q)).1 = s.2.2.1 ∧ (rTe (qtN t S0) (rTv σ (qtN t S0) q)).2 < s.2.2.2 then (Int32.ofNat t, rTv σ (qtN t S0) q, rTe (qtN t S0) (rTv σ (qtN t S0) q)) else s
def rTB (σ : RV) (S : SH) (n : Nat) : TS := (List.range n).foldl (rTs σ S) (-1000009, (0, 0), (100000, 100000))
theorem rTB_succ {σ : RV} {S : SH} {n : Nat} : rTB σ S (n + 1) = rTs σ S (rTB σ S n) n := by
  unfold rTB; rw [List.range_succ, List.foldl_append]; rfl
theorem qt4 {v : PT} : qt (qt (qt (qt v))) = v := by
  unfold qt; simp
theorem qtN4 {S : SH} : qtN 4 S = S := by
  show qtS (qtS (qtS (qtS S))) = S
  unfold qtS
  rw [List.map_map, List.map_map, List.map_map]
  have : ((List.map qt ∘ List.map qt) ∘ List.map qt) ∘ List.map qt = id := by
    funext l
    simp only [Function.comp, List.map_map, id]
    rw [show (qt ∘ qt ∘ qt ∘ qt) = id from funext fun v => qt4, List.map_id]
  first
    | rw [this, List.map_id]
    | (have e : (List.map qt ∘ List.map qt ∘ List.map qt ∘ List.map qt) = id := this
       rw [e, List.map_id])
noncomputable def rPlaceT (σ : RV) (ps : List RV) (x : Int32) : Int32 × RV × List RV := if 0 ≤ rErr σ x then (if (rTB σ (slR σ x) 4).1 = -1000009 then (-1000009, σ, ps) else (Int32.ofNat σ.2.1.length, rAdd σ (qtN (nx (rTB σ (slR σ x) 4).1) (slR σ x)) (rTB σ (slR σ x) 4).2.1, pushR ps σ)) else (rErr σ x, σ, ps)
section RG
variable {E : EV} {h : AH} {z : Sc} {k : MK} {cs : List Int32} {σ : RV} {ps : List RV} {b : Nat} {S : SH}
theorem rTB_b {n : Nat} : (rTB σ S n).1 = -1000009 ∨ ∃ t, t < n ∧ (rTB σ S n).1 = Int32.ofNat t := by
  induction n with
  | zero => exact Or.inl rfl
  | succ n ih =>
    rw [rTB_succ]
    have keep : (rTB σ S n).1 = -1000009 ∨ ∃ t, t < n + 1 ∧ (rTB σ S n).1 = Int32.ofNat t := ih.imp id fun ⟨t, h1, h2⟩ => ⟨t, by omega, h2⟩
    unfold rTs
    split
    · exact keep
    · split
      · exact Or.inr ⟨n, by omega, rfl⟩
      · exact keep
theorem m11_placeTurned (H : Mrf h cs σ ps) (x : Int32) (hb : Slt x → ¬ slR σ x = [] → ∀ t, t < 4 → SmB (bxR (qtN t (slR σ x)) σ.2.2.1 σ.2.2.2.1)) : sX11_placeTurned E [aP (some 313), aI x] h (Rq cs (rPlaceT σ ps x).2.1 (rPlaceT σ ps x).2.2 h (rPlaceT σ ps x).1) := by
  obtain ⟨z0, k0, H0, P0, T0⟩ := H
  have hn := P0.1.1.2
  refine uX11_placeTurned (fun m h' l0 l3 l4 l5 l6 l7 l8 => ∃ j z k, m = 100 - j ∧ l0 = some 313 ∧ l8 = Int32.ofNat j ∧ j ≤ 4 ∧ 0 ≤ rErr σ x ∧ MoZ h' z k ∧ MsK k σ ps ∧ TxR k cs ∧ Blk k 540 (qtN j (slR σ x)) ∧ Fr 313 323 h h' ∧ l3 = (rTB σ (slR σ x) j).1 ∧ (l4, l5) = (rTB σ (slR σ x) j).2.1 ∧ (l6, l7) = (rTB σ (slR σ x) j).2.2) (fun m h' l0 l3 l4 l5 l8 => ∃ j z k, m = 50 - j ∧ l0 = some 313 ∧ l8 = Int32.ofNat j ∧ j ≤ nx l3 ∧ 0 ≤ rErr σ x ∧ MoZ h' z k ∧ MsK k σ (pushR ps σ) ∧ TxR k cs ∧ Blk k 540 (qtN j (slR σ x)) ∧ Fr 313 323 h h' ∧ l3 = (rTB σ (slR σ x) 4).1 ∧ (l4, l5) = (rTB σ (slR σ x) 4).2.1 ∧ ¬ l3 = -1000009) ?_ ?_ ?_
  · unfold PX11_placeTurned_0
    refine cvI H0.1 (m11_refuses H0 P0.1 x) ⟨fun c1 => ?_, fun c1 => ?_⟩
    · obtain ⟨sl, ne, n8⟩ := rErr0 c1
      obtain ⟨j, rfl, hj, ej⟩ := sl.ex
      refine csI (m11_slotAt j) (cvVq H0.1 (m11_copy H0 (b := 540) (by omega) (by omega) (by omega)) fun h7 q7 => ?_)
      obtain ⟨s, H7, hs, f7⟩ := q7
      refine ⟨_, 0, z0, _, rfl, rfl, rfl, by omega, c1, H7, P0.s (P0.1.same fun i hi => ?_), T0, ⟨by omega, ?_⟩, f7.weak (by omega) (by omega), rfl, rfl, rfl⟩
      · show s.getD i 0 = _
        rw [hs, if_neg (by omega)]
      · unfold slR; rw [ej]
        refine (P0.1.2.2.2.1 j hj).tr fun q hq => ?_
        show s.getD _ 0 = _
        rw [hs, if_pos (by omega), show 4 + 40 * j + (540 + q - 540) = 4 + 40 * j + q by omega]
    · unfold rPlaceT; rw [if_neg c1]
      exact Rq.mk rfl ⟨z0, k0, H0, P0, T0⟩ Fr.refl
  · rintro m h' l0 l3 l4 l5 l6 l7 l8 ⟨j, z, k, rfl, rfl, rfl, hj, c0, H, P, T, B, f, e3, e45, e67⟩
    obtain ⟨sl, ne, n8⟩ := rErr0 c0
    have hb := hb sl ne
    unfold PX11_placeTurned_45
    refine ⟨fun c => ?_, fun c => ?_⟩
    · have c := (i32_le (i := 4) (by omega) (by omega)).mp c
      have : j = 4 := by omega
      subst this
      refine ⟨fun c3 => ?_, fun c3 => ?_⟩
      · refine cvVq H.1 (m11_note H P) fun h2 q2 => ?_
        obtain ⟨pt, n, H2, P2, f2⟩ := q2
        rw [qtN4] at B
        exact ⟨_, by omega, 0, z, _, rfl, rfl, rfl, Nat.zero_le _, c0, H2, P2, T, B, f.trans (f2.weak (by omega) (by omega)), e3, e45, c3⟩
      · unfold rPlaceT; rw [if_pos c0, if_pos (e3.symm.trans c3)]
        exact Rq.mk rfl ⟨z, k, H, P, T⟩ f
    · have c := mt (i32_le (i := 4) (j := j) (by omega) (by omega)).mpr c
      have stay : ∀ h2 z2 m3 m4 m5 m6 m7, MoZ h2 z2 k → Fr 313 323 h h2 → m3 = (rTB σ (slR σ x) (j + 1)).1 → (m4, m5) = (rTB σ (slR σ x) (j + 1)).2.1 → (m6, m7) = (rTB σ (slR σ x) (j + 1)).2.2 → PX11_placeTurned_137 E (Rq cs (rPlaceT σ ps x).2.1 (rPlaceT σ ps x).2.2 h (rPlaceT σ ps x).1) (fun h' l0 l3 l4 l5 l6 l7 l8 => ∃ m', m' < 100 - j ∧ ∃ j z k, m' = 100 - j ∧ l0 = some 313 ∧ l8 = Int32.ofNat j ∧ j ≤ 4 ∧ 0 ≤ rErr σ x ∧ MoZ h' z k ∧ MsK k σ ps ∧ TxR k cs ∧ Blk k 540 (qtN j (slR σ x)) ∧ Fr 313 323 h h' ∧ l3 = (rTB σ (slR σ x) j).1 ∧ (l4, l5) = (rTB σ (slR σ x) j).2.1 ∧ (l6, l7) = (rTB σ (slR σ x) j).2.2) h2 (some 313) m3 m4 m5 m6 m7 (Int32.ofNat j) := fun h2 z2 m3 m4 m5 m6 m7 H2 f2 a3 a45 a67 => by
        unfold PX11_placeTurned_137
        refine cvVq H2.1 (m11_turn (b := 540) H2 B) fun h3 q3 => ?_
        obtain ⟨s, H3, B3, hs, f3⟩ := q3
        exact ⟨_, by omega, j + 1, z2, _, rfl, rfl, i32_s _, by omega, c0, H3, P.s (P.1.same fun i hi => hs i (by omega)), T, B3, f2.trans (f3.weak (by omega) (by omega)), a3, a45, a67⟩
      refine cvIq H.1 (m11_finds H P.1 B (hb j (by omega))) fun r h2 q2 => ?_
      obtain ⟨er, ⟨z2, H2, hz⟩, f2⟩ := q2
      have ff : Fr 313 323 h h2 := f.trans (f2.weak (by omega) (by omega))
      rw [rTB_succ] at stay
      unfold rTs at stay
      cases hf : rFind σ (qtN j (slR σ x)) with
      | none =>
        rw [hf] at er stay
        exact ⟨fun c2 => stay h2 z2 _ _ _ _ _ H2 ff e3 e45 e67, fun c2 => absurd er c2⟩
      | some q =>
        rw [hf] at er stay
        obtain ⟨ea, eb⟩ := hz q hf
        refine ⟨fun c2 => by rw [er] at c2; exact absurd (show (1 : Int32) = 0 from c2) (by decide), fun c2 => ?_⟩
        refine (rdI_iff H2.1).mpr ⟨_, rfl, ?_⟩
        refine cvI H2.1 (m11_highest (b := 540) H2 B 0 1) ?_
        rintro _ rfl
        refine (rdI_iff H2.1).mpr ⟨_, rfl, ?_⟩
        refine cvI H2.1 (m11_highest (b := 540) H2 B 1 0) ?_
        rintro _ rfl
        rw [ea, eb]
        have g6 : l6 = (rTB σ (slR σ x) j).2.2.1 := congrArg Prod.fst e67
        have g7 : l7 = (rTB σ (slR σ x) j).2.2.2 := congrArg Prod.snd e67
        have take : ((rTe (qtN j (slR σ x)) (rTv σ (qtN j (slR σ x)) q)).1 < (rTB σ (slR σ x) j).2.2.1 ∨ (rTe (qtN j (slR σ x)) (rTv σ (qtN j (slR σ x)) q)).1 = (rTB σ (slR σ x) j).2.2.1 ∧ (rTe (qtN j (slR σ x)) (rTv σ (qtN j (slR σ x)) q)).2 < (rTB σ (slR σ x) j).2.2.2) → PX11_placeTurned_114 E (Rq cs (rPlaceT σ ps x).2.1 (rPlaceT σ ps x).2.2 h (rPlaceT σ ps x).1) (fun h' l0 l3 l4 l5 l6 l7 l8 => ∃ m', m' < 100 - j ∧ ∃ j z k, m' = 100 - j ∧ l0 = some 313 ∧ l8 = Int32.ofNat j ∧ j ≤ 4 ∧ 0 ≤ rErr σ x ∧ MoZ h' z k ∧ MsK k σ ps ∧ TxR k cs ∧ Blk k 540 (qtN j (slR σ x)) ∧ Fr 313 323 h h' ∧ l3 = (rTB σ (slR σ x) j).1 ∧ (l4, l5) = (rTB σ (slR σ x) j).2.1 ∧ (l6, l7) = (rTB σ (slR σ x) j).2.2) h2 (some 313) (Int32.ofNat j) (rTe (qtN j (slR σ x)) (rTv σ (qtN j (slR σ x)) q)).1 (rTe (qtN j (slR σ x)) (rTv σ (qtN j (slR σ x)) q)).2 := fun d => by
          unfold PX11_placeTurned_114
          refine (rdI_iff H2.1).mpr ⟨_, rfl, (rdI_iff H2.1).mpr ⟨_, rfl, ?_⟩⟩
          rw [ea, eb]
          dsimp only at stay
          rw [if_pos d] at stay
          exact stay h2 z2 _ _ _ _ _ H2 ff rfl rfl rfl
        have skip : ¬ ((rTe (qtN j (slR σ x)) (rTv σ (qtN j (slR σ x)) q)).1 < (rTB σ (slR σ x) j).2.2.1 ∨ (rTe (qtN j (slR σ x)) (rTv σ (qtN j (slR σ x)) q)).1 = (rTB σ (slR σ x) j).2.2.1 ∧ (rTe (qtN j (slR σ x)) (rTv σ (qtN j (slR σ x)) q)).2 < (rTB σ (slR σ x) j).2.2.2) → PX11_placeTurned_137 E (Rq cs (rPlaceT σ ps x).2.1 (rPlaceT σ ps x).2.2 h (rPlaceT σ ps x).1) (fun h' l0 l3 l4 l5 l6 l7 l8 => ∃ m', m' < 100 - j ∧ ∃ j z k, m' = 100 - j ∧ l0 = some 313 ∧ l8 = Int32.ofNat j ∧ j ≤ 4 ∧ 0 ≤ rErr σ x ∧ MoZ h' z k ∧ MsK k σ ps ∧ TxR k cs ∧ Blk k 540 (qtN j (slR σ x)) ∧ Fr 313 323 h h' ∧ l3 = (rTB σ (slR σ x) j).1 ∧ (l4, l5) = (rTB σ (slR σ x) j).2.1 ∧ (l6, l7) = (rTB σ (slR σ x) j).2.2) h2 (some 313) l3 l4 l5 l6 l7 (Int32.ofNat j) := fun d => by
          dsimp only at stay
          rw [if_neg d] at stay
          exact stay h2 z2 _ _ _ _ _ H2 ff e3 e45 e67
        rw [g6, g7] at skip ⊢
        exact ⟨fun d1 => take (Or.inl d1), fun d1 => ⟨fun d2 => skip fun w => w.elim d1 fun w => d2 w.1, fun d2 => ⟨fun d3 => skip fun w => w.elim d1 fun w => i32_not_lt.mpr d3 w.2, fun d3 => take (Or.inr ⟨d2, i32_not_le.mp d3⟩)⟩⟩⟩
  · rintro m h' l0 l3 l4 l5 l8 ⟨j, z, k, rfl, rfl, rfl, hj, c0, H, P, T, B, f, e3, e45, ne9⟩
    obtain ⟨sl, ne, n8⟩ := rErr0 c0
    unfold PX11_placeTurned_166
    obtain ⟨t, ht, et⟩ := (rTB_b (σ := σ) (S := slR σ x) (n := 4)).resolve_left fun q => ne9 (e3.trans q)
    have e3t : l3 = Int32.ofNat t := e3.trans et
    subst e3t
    have nt : nx (Int32.ofNat t) = t := i32_n (by omega)
    rw [nt] at hj
    refine ⟨fun c => ?_, fun c => ?_⟩
    · have c := (i32_le (by omega) (by omega)).mp c
      have : j = t := by omega
      subst this
      refine cvIq H.1 (m11_puts (b := 540) H P.1 (by omega) B (by omega) l4 l5) fun r9 h9 q9 => ?_
      obtain ⟨e9, s, H9, R9, -, f9⟩ := q9
      unfold rPlaceT; rw [if_pos c0, if_neg fun q => ne9 (e3.trans q), et, nt, ← e45]
      exact Rq.mk e9.symm ⟨_, _, H9, P.s R9, T⟩ (f.trans (f9.weak (by omega) (by omega)))
    · have c := mt (i32_le (i := t) (j := j) (by omega) (by omega)).mpr c
      refine cvVq H.1 (m11_turn (b := 540) H B) fun h3 q3 => ?_
      obtain ⟨s, H3, B3, hs, f3⟩ := q3
      exact ⟨_, by omega, j + 1, z, _, rfl, rfl, i32_s _, by rw [nt]; omega, c0, H3, P.s (P.1.same fun i hi => hs i (by omega)), T, B3, f.trans (f3.weak (by omega) (by omega)), e3, e45, ne9⟩
end RG
