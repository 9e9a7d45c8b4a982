/-! does: one call that may change the state -/
def Cl (cs : List Int32) (x : Int32) (t : C5) (h : AH) : Option AV → AH → Prop := kI fun r h' => (r = t.1 ∧ Plb h' t.2.1 t.2.2.1 t.2.2.2.1 t.2.2.2.2 ∧ FrG h h') ∧ (Slt x → (shGo cs 3 0 []).1 = true ∨ (shGo cs 3 0 []).2.1 ≤ 150)
theorem Cl.mk {cs : List Int32} {x : Int32} {t : C5} {h h' : AH} {r : Int32} (e : t.1 = r) (H : Plb h' t.2.1 t.2.2.1 t.2.2.2.1 t.2.2.2.2) (f : FrG h h') (p : Slt x → (shGo cs 3 0 []).1 = true ∨ (shGo cs 3 0 []).2.1 ≤ 150) : Cl cs x t h (some (aI r)) h' := ⟨r, rfl, ⟨e.symm, H, f⟩, p⟩
section DO
variable {E : EV} {h : AH} {cs : List Int32} {σ : SV} {vs : List SV} {M : Nat → SH} {ρ : RV} {ps : List RV} {K : Int32 → AH → Prop}
theorem c10_load2 (H : Plb h cs σ vs M) (hL : 313 ≤ h.length) (x : Int32) : sX10_loadShape E [aP (some 0), aI x] h (Cl cs x (cLoad cs σ vs M h.length x) h) := by
  refine eX10_loadShape ?_
  unfold PX10_loadShape_0
  refine ⟨⟨by omega, by omega⟩, csI (s10_isSlot x) ⟨fun c => ?_, fun c => ⟨⟨by omega, by omega⟩, ?_⟩⟩⟩
  · have hs := ifC1 rfl c
    obtain ⟨p, num, S, W, V, K⟩ := H.tx
    refine (rdP_iff H.1).mpr ⟨_, rfl, (rdP_iff H.1).mpr ⟨_, rfl, ⟨by omega, by omega⟩, cvIq K.2.1 (s7_read K) fun r h6 q6 => ?_⟩⟩
    obtain ⟨e6, ⟨n6, V6, K6⟩, f6⟩ := q6
    have H6 := H.rdk ⟨_, _, _, _, _, K6⟩ f6
    have ff : Fr 0 313 h h6 := f6.weak (by omega) (by omega)
    refine ⟨fun c6 => ?_, fun c6 => ?_⟩
    · have hok := r01 e6 c6
      have hS := sh_ok (cs := cs) (t := 3) (p := 0) (S := []) (fun i hi => by simp at hi) hok
      refine (rdP_iff H6.1).mpr ⟨_, rfl, (wr_iff K6.1.ad).mpr ⟨Nat.le_of_ble_eq_true rfl, ?_⟩⟩
      have K8 := K6.wipe
      have H8 := H6.rdk (cs' := []) ⟨_, _, _, _, _, K8.1⟩ K8.2
      have l8 : ((h6.set 5 (.inr (9, [aP (some 6), aI 0, aI (Int32.ofNat (shGo cs 3 0 []).2.1), aI n6])))).length = h.length := by rw [List.length_set, f6.1]
      have sp := u10_store (E := E) H8 (by rw [l8]; exact hL) K8.1.2.2.1 hS.1 hs 0
      rw [l8, tn_0] at sp
      refine (rdP_iff H8.1).mpr ⟨_, rfl, (rdP_iff K8.1.2.1).mpr ⟨_, rfl, ⟨by omega, by omega⟩, cvIq H8.1 sp fun r11 h12 q12 => ⟨⟨by omega, by omega⟩, ?_⟩⟩⟩
      obtain ⟨e12, H12, f12⟩ := q12
      unfold cLoad; rw [ifC_pos hs, if_pos hok]
      exact Cl.mk e12.symm H12 (((ff.trans (K8.2.weak (by omega) (by omega))).g).trans f12) fun _ => Or.inl hok
    · have hok := r00 e6 c6
      have p150 : (shGo cs 3 0 []).2.1 ≤ 150 := by
        obtain ⟨xs, -, -, -, p, -⟩ := K6.1
        exact p
      refine (rdP_iff H6.1).mpr ⟨_, rfl, (rdI_iff K6.1.ad).mpr ⟨_, rfl, ⟨by omega, by omega⟩, ?_⟩⟩
      unfold cLoad; rw [ifC_pos hs, if_neg hok]
      exact Cl.mk rfl H6 ff.g fun _ => Or.inr p150
  · unfold cLoad; rw [ifC_neg (ifC0 rfl c)]
    exact Cl.mk rfl H FrG.refl fun s => absurd s (ifC0 rfl c)
theorem Dn.hs {t : Int32 × RV × List RV} (D : Dn ρ ps t) (N : NH ρ) (Ns : NHs ps) : NHs t.2.2 := by
  rcases D.1 with ⟨-, e⟩ | ⟨-, e⟩
  · rw [e]; exact Ns.push N
  · rw [e]; exact Ns
theorem LW.s {S : List AV → AH → (Option AV → AH → Prop) → Prop} {As : List AV} {cs' : List Int32} {t : Int32 × RV × List RV} (W : LW h cs ρ ps) (D : ∀ σ M, StR M σ ρ → NH ρ → Dn ρ ps t) (A : ∀ σ vs M, Plb h cs σ vs M → Ful M σ vs ρ ps → ∃ c : Int32 × SV × List SV, S (aP (some 0) :: As) h (Cy cs' c.2.1 c.2.2 M h c.1) ∧ c.1 = t.1 ∧ Ful M c.2.1 c.2.2 t.2.1 t.2.2) (k : ∀ h', LW h' cs' t.2.1 t.2.2 → Dn ρ ps t → K t.1 h') : CV S (some 0) 10 As h (kI K) := by
  obtain ⟨L, σ, vs, M, H, F, N, Ns⟩ := W
  have D := D σ M F.1 N
  obtain ⟨c, sp, e, F'⟩ := A σ vs M H F
  refine cvIq H.1 sp fun r h' q => ?_
  obtain ⟨q1, q2, q3⟩ := q
  rw [q1, e]
  exact k h' ⟨by rw [q3.1]; exact L, _, _, M, q2, F', D.2, D.hs N Ns⟩ D
theorem LW.g {S : List AV → AH → (Option AV → AH → Prop) → Prop} {As : List AV} {cs' : List Int32} {t : Int32 × RV × List RV} (W : LW h cs ρ ps) (D : ∀ σ M, StR M σ ρ → NH ρ → Dn ρ ps t) (A : ∀ σ vs M, 313 ≤ h.length → Plb h cs σ vs M → Ful M σ vs ρ ps → ∃ c : C5, S (aP (some 0) :: As) h (Cg c h) ∧ Ful5 c (t.1, cs', t.2)) (k : ∀ h', LW h' cs' t.2.1 t.2.2 → Dn ρ ps t → K t.1 h') : CV S (some 0) 10 As h (kI K) := by
  obtain ⟨L, σ, vs, M, H, F, N, Ns⟩ := W
  have D := D σ M F.1 N
  obtain ⟨c, sp, e, e2, F'⟩ := A σ vs M L H F
  refine cvIq H.1 sp fun r h' q => ?_
  obtain ⟨q1, q2, q3⟩ := q
  rw [q1, e]
  rw [e2] at q2
  exact k h' ⟨Nat.le_trans L q3.1, _, _, _, q2, F', D.2, D.hs N Ns⟩ D
theorem lw_load (W : LW h cs ρ ps) (x : Int32) (k : ∀ r h' cs' ρ' ps', LW h' cs' ρ' ps' → Dn ρ ps (r, ρ', ps') → K r h') : CV (sX10_loadShape E) (some 0) 10 [aI x] h (kI K) := by
  obtain ⟨L, σ, vs, M, H, F, N, Ns⟩ := W
  refine cvIq H.1 (c10_load2 H L x) fun r h' q => ?_
  obtain ⟨⟨q1, q2, q3⟩, p⟩ := q
  obtain ⟨e, e2, F'⟩ := q_load F (liv_lt H) cs x
  have es := shGo_rw (cs := cs) (t := 3) (p := 0) (S := [])
  rw [List.map_nil] at es
  rw [es] at p
  have D := d_load (ps := ps) N cs x p
  rw [q1, e]
  exact k _ h' _ _ _ ⟨Nat.le_trans L q3.1, _, _, _, q2, F', D.2, D.hs N Ns⟩ D
theorem lw_clear (W : LW h cs ρ ps) (x : Int32) (k : ∀ h', LW h' cs (rClear ρ ps x).2.1 (rClear ρ ps x).2.2 → Dn ρ ps (rClear ρ ps x) → K (rClear ρ ps x).1 h') : CV (sX10_clearShape E) (some 0) 10 [aI x] h (kI K) :=
  W.s (fun σ M H N => d_clear H N x) (fun σ vs M H F => ⟨_, c10_clearShape H x, q_clear F H.shm.2.1 x⟩) k
theorem lw_cont (W : LW h cs ρ ps) (w hh : Int32) (k : ∀ h', LW h' cs (rCont ρ ps w hh).2.1 (rCont ρ ps w hh).2.2 → Dn ρ ps (rCont ρ ps w hh) → K (rCont ρ ps w hh).1 h') : CV (sX10_setContainer E) (some 0) 10 [aI w, aI hh] h (kI K) :=
  W.s (fun σ M H N => d_cont H N w hh) (fun σ vs M H F => ⟨_, c10_setContainer H w hh, q_cont F w hh⟩) k
theorem lw_clr (W : LW h cs ρ ps) (r : Int32) (k : ∀ h', LW h' cs (rClr ρ ps r).2.1 (rClr ρ ps r).2.2 → Dn ρ ps (rClr ρ ps r) → K (rClr ρ ps r).1 h') : CV (sX10_setClearance E) (some 0) 10 [aI r] h (kI K) :=
  W.s (fun σ M H N => d_clr H N r) (fun σ vs M H F => ⟨_, c10_setClearance H r, q_clr F r⟩) k
theorem lw_remove (W : LW h cs ρ ps) (i : Int32) (k : ∀ h', LW h' cs (rRemove ρ ps i).2.1 (rRemove ρ ps i).2.2 → Dn ρ ps (rRemove ρ ps i) → K (rRemove ρ ps i).1 h') : CV (sX10_removeItem E) (some 0) 10 [aI i] h (kI K) :=
  W.s (fun σ M H N => d_remove H N i) (fun σ vs M H F => ⟨_, c10_remove H i, q_remove F i⟩) k
theorem lw_put (W : LW h cs ρ ps) (x u v : Int32) (k : ∀ h', LW h' cs (rPlace ρ ps x u v).2.1 (rPlace ρ ps x u v).2.2 → Dn ρ ps (rPlace ρ ps x u v) → K (rPlace ρ ps x u v).1 h') : CV (sX10_place E) (some 0) 10 [aI x, aI u, aI v] h (kI K) :=
  W.s (fun σ M H N => d_place H N x u v) (fun σ vs M H F => ⟨_, c10_place H x u v, q_place F x u v⟩) k
theorem lw_putBL (W : LW h cs ρ ps) (x : Int32) (k : ∀ h', LW h' cs (rPlaceBL ρ ps x).2.1 (rPlaceBL ρ ps x).2.2 → Dn ρ ps (rPlaceBL ρ ps x) → K (rPlaceBL ρ ps x).1 h') : CV (sX10_placeBottomLeft E) (some 0) 10 [aI x] h (kI K) :=
  W.s (fun σ M H N => d_placeBL H N x) (fun σ vs M H F => ⟨_, c10_placeBL H x fun s n => (sm_both F.1 (F.1.sl s).1 n).1, q_placeBL F x⟩) k
theorem lw_slide (W : LW h cs ρ ps) (i d : Int32) (k : ∀ h', LW h' cs (rSlideI ρ ps i d (slN ρ (nx i) d)).2.1 (rSlideI ρ ps i d (slN ρ (nx i) d)).2.2 → Dn ρ ps (rSlideI ρ ps i d (slN ρ (nx i) d)) → K (rSlideI ρ ps i d (slN ρ (nx i) d)).1 h') : CV (sX10_slideItem E) (some 0) 10 [aI i, aI d] h (kI K) :=
  W.s (fun σ M H N => d_slide H N i d) (fun σ vs M H F => ⟨_, c10_slideItem H i d, q_slideI F i d⟩) k
theorem lw_compact (W : LW h cs ρ ps) (k : ∀ h', LW h' cs (rCompact ρ ps 100000).2.1 (rCompact ρ ps 100000).2.2 → Dn ρ ps (rCompact ρ ps 100000) → K (rCompact ρ ps 100000).1 h') : CV (sX10_compact E) (some 0) 10 [] h (kI K) :=
  W.s (fun σ M H N => d_compact H N) (fun σ vs M H F => ⟨_, c10_compact H, q_compact F⟩) k
theorem lw_copy (W : LW h cs ρ ps) (x y t : Int32) (k : ∀ h', LW h' cs (rCopy ρ ps x y t).2.1 (rCopy ρ ps x y t).2.2 → Dn ρ ps (rCopy ρ ps x y t) → K (rCopy ρ ps x y t).1 h') : CV (sX10_copyShape E) (some 0) 10 [aI x, aI y, aI t] h (kI K) :=
  W.g (fun σ M H N => d_copy H N x y t) (fun σ vs M L H F => ⟨_, c10_copy H L x y t, q_copy F (liv_lt H) cs x y t⟩) k
theorem lw_putT (W : LW h cs ρ ps) (x : Int32) (k : ∀ h', LW h' cs (rPlaceT ρ ps x).2.1 (rPlaceT ρ ps x).2.2 → Dn ρ ps (rPlaceT ρ ps x) → K (rPlaceT ρ ps x).1 h') : CV (sX10_placeTurned E) (some 0) 10 [aI x] h (kI K) :=
  W.g (fun σ M H N => d_placeT H N x) (fun σ vs M L H F => ⟨_, c10_placeT H L x (fun s n t => by
    obtain ⟨j, -, e⟩ := tnS_any t (slM M σ (nx x))
    rw [e]
    exact (sm_both F.1 ((F.1.sl s).1.qtNr j) (qtN_ne n j)).1), q_placeT F (liv_lt H) cs x⟩) k
theorem lw_lay (W : LW h [] ρ ps) (k : ∀ h', LW h' [] (ρ.1, [], ρ.2.2) (pushR ps ρ) → Dn ρ ps (Int32.ofNat 0, (ρ.1, [], ρ.2.2), pushR ps ρ) → K (Int32.ofNat 0) h') : CV (sX10_loadLayout E) (some 0) 10 [] h (kI K) := by
  obtain ⟨L, σ, vs, M, H, F, N, Ns⟩ := W
  have D : Dn ρ ps (Int32.ofNat 0, (ρ.1, [], ρ.2.2), pushR ps ρ) := Dn.yes (by omega) (NH.none rfl)
  obtain ⟨e1, e2, e3⟩ := q_lay F []
  rw [d_lay] at e1 e2 e3
  refine cvIq H.1 (c10_loadLayout H) fun r h' q => ?_
  obtain ⟨q1, q2, q3⟩ := q
  rw [e2] at q2
  rw [q1, e1]
  exact k h' ⟨by rw [q3.1]; exact L, _, _, M, q2, e3, D.2, D.hs N Ns⟩ D
def DQ (ρ : RV) (ps : List RV) : Option AV → AH → Prop := kI fun r h' => ∃ cs' ρ' ps', LW h' cs' ρ' ps' ∧ Dn ρ ps (r, ρ', ps')
theorem dq {t : Int32 × RV × List RV} {cs' : List Int32} {h' : AH} (W : LW h' cs' t.2.1 t.2.2) (D : Dn ρ ps t) : DQ ρ ps (some (aI t.1)) h' := ⟨_, rfl, cs', t.2.1, t.2.2, W, D⟩
theorem b0 : 0 ≤ 4 ∧ 0 ≤ 50 := by decide
theorem b4 : 0 + 4 ≤ 4 ∧ 0 + 50 ≤ 50 := by decide
theorem o12_80 (W : LW h cs ρ ps) (v : Int32) : PX12_does_80 E (DQ ρ ps) 0 0 h (some 0) v := by
  unfold PX12_does_80
  exact ⟨b0, lw_types W _ fun h2 c2 W2 => ⟨b0, lw_low (by decide) fun x3 => ⟨b4, lw_load W2 x3 fun r h6 c6 ρ6 ps6 W6 D => ⟨b4, _, rfl, c6, ρ6, ps6, W6, D⟩⟩⟩⟩
theorem o12_205 (W : LW h cs ρ ps) (v : Int32) : PX12_does_205 E (DQ ρ ps) 0 0 h (some 0) v := by
  unfold PX12_does_205
  exact ⟨b0, lw_low (by decide) fun x1 => ⟨b4, lw_putT W x1 fun h4 W4 D => ⟨b4, dq W4 D⟩⟩⟩
theorem o12_217 (W : LW h cs ρ ps) (v : Int32) : PX12_does_217 E (DQ ρ ps) 0 0 h (some 0) v := by
  unfold PX12_does_217
  exact ⟨b0, lw_low (by decide) fun x1 => ⟨b0, lw_putBL W x1 fun h4 W4 D => ⟨b0, dq W4 D⟩⟩⟩
theorem o12_229 (W : LW h cs ρ ps) (v : Int32) : PX12_does_229 E (DQ ρ ps) 0 0 h (some 0) v := by
  unfold PX12_does_229
  exact ⟨b0, lw_low (by decide) fun x1 => ⟨b0, lw_low (by decide) fun x3 => ⟨b0, lw_low (by decide) fun x5 => ⟨b0, lw_put W _ _ _ fun h4 W4 D => ⟨b0, dq W4 D⟩⟩⟩⟩⟩
theorem o12_263 (W : LW h cs ρ ps) (v : Int32) : PX12_does_263 E (DQ ρ ps) 0 0 h (some 0) v := by
  unfold PX12_does_263
  exact ⟨b0, lw_low (by decide) fun x1 => ⟨b0, lw_low (by decide) fun x3 => ⟨b0, lw_slide W _ _ fun h4 W4 D => ⟨b0, dq W4 D⟩⟩⟩⟩
theorem c12_does (W : LW h cs ρ ps) (v : Int32) : sX12_does E [aP (some 0), aI v] h (DQ ρ ps) := by
  refine eX12_does ?_
  unfold PX12_does_0
  refine ⟨fun _ => ⟨b0, lw_wipe W fun r h2 W2 => ⟨fun _ => ?_, fun _ => ?_⟩⟩, fun _ => o12_80 W v, fun _ => o12_80 W v, fun _ => ?_, fun _ => ⟨fun _ => ?_, fun _ => ?_⟩, fun _ => ⟨fun _ => ?_, fun _ => ?_⟩, fun _ => o12_205 W v, fun _ => o12_205 W v, fun _ => o12_217 W v, fun _ => o12_217 W v, fun _ => o12_217 W v, fun _ => o12_229 W v, fun _ => o12_229 W v, fun _ => o12_263 W v, fun _ => o12_263 W v, fun _ => ?_⟩
  · exact ⟨b0, lw_clr W2 _ fun h4 W4 D => ⟨b0, dq W4 D⟩⟩
  · exact ⟨b0, lw_lay W2 fun h4 W4 D => ⟨b0, dq (t := (Int32.ofNat 0, (ρ.1, [], ρ.2.2), pushR ps ρ)) W4 D⟩⟩
  · exact ⟨b0, lw_low (by decide) fun x1 => ⟨b0, lw_low (by decide) fun x3 => ⟨b0, lw_low (by decide) fun x5 => ⟨b4, lw_copy W _ _ _ fun h4 W4 D => ⟨b4, dq W4 D⟩⟩⟩⟩⟩
  · exact ⟨b0, lw_low (by decide) fun x1 => ⟨b0, lw_clr W _ fun h4 W4 D => ⟨b0, dq W4 D⟩⟩⟩
  · exact ⟨b0, lw_low (by decide) fun x1 => ⟨b0, lw_clear W _ fun h4 W4 D => ⟨b0, dq W4 D⟩⟩⟩
  · exact ⟨b0, lw_compact W fun h4 W4 D => ⟨b0, dq W4 D⟩⟩
  · exact ⟨b0, lw_low (by decide) fun x1 => ⟨b0, lw_low (by decide) fun x3 => ⟨b0, lw_cont W _ _ fun h4 W4 D => ⟨b0, dq W4 D⟩⟩⟩⟩
  · exact ⟨b0, lw_low (by decide) fun x1 => ⟨b0, lw_remove W _ fun h4 W4 D => ⟨b0, dq W4 D⟩⟩⟩
theorem lw_does (W : LW h cs ρ ps) (v : Int32) (k : ∀ r h' cs' ρ' ps', LW h' cs' ρ' ps' → Dn ρ ps (r, ρ', ps') → K r h') : CS (sX12_does E) [aP (some 0), aI v] h (kI K) := ⟨_, c12_does W v, kI.mono fun r h' q => by
  obtain ⟨c, ρ', ps', W2, D⟩ := q
  exact k r h' c ρ' ps' W2 D⟩
end DO
