/-! the planner's questions about shapes -/
abbrev nx (x : Int32) : Nat := x.toNatClampNeg
def Qy (cs : List Int32) (σ : SV) (vs : List SV) (M : Nat → SH) (h : AH) (v : Int32) : Option AV → AH → Prop := kI fun r h' => r = v ∧ Plb h' cs σ vs M ∧ Fr 0 313 h h'
theorem Qy.mk {cs : List Int32} {σ : SV} {vs : List SV} {M : Nat → SH} {h h' : AH} {v r : Int32} (e : v = r) (H : Plb h' cs σ vs M) (f : Fr 0 313 h h') : Qy cs σ vs M h v (some (aI r)) h' := ⟨r, rfl, e.symm, H, f⟩
section QA
variable {E : EV} {h : AH} {cs : List Int32} {σ : SV} {vs : List SV} {M : Nat → SH}
theorem u8_slot (H : Plb h cs σ vs M) {x : Int32} (hx : Slt x) : sX8_slot E [aP (some 262), aI x] h (kP fun r h' => r = some (σ.1.getD (nx x) 0) ∧ h' = h) := by
  have := t8_slot (E := E) H.st hx.nat.2
  rw [← hx.nat.1] at this; exact this
theorem u10_empty (H : Plb h cs σ vs M) {x : Int32} (hx : Slt x) : sX10_isSlotEmpty E [aP (some 0), aI x] h (kI fun r h' => r = (if slM M σ (nx x) = [] then 1 else 0) ∧ h' = h) := by
  have := s10_isSlotEmpty (E := E) H hx.nat.2
  rw [← hx.nat.1] at this; exact this
theorem u6_copy {a p : Nat} {S : SH} {W V : List PT} (H : ShO h a S W) (P : PolyAt h p V) (d : p + 3 ≤ a ∨ a + 4 ≤ p) {i : Int32} (hi : Pce S i) (t : Int32) : sX6_copyPiece E [aP (some a), aI i, aI t, aP (some p)] h (kV fun h' => PolyAt h' p ((S.getD (nx i) []).map (trP t)) ∧ Fr p (p + 3) h h') := by
  have hn := hi.nat H.lens.1
  have := s6_copyPiece (E := E) H P d hn.2 t
  rw [← hn.1] at this; exact this
theorem Plb.sl (H : Plb h cs σ vs M) {x : Int32} (hx : Slt x) : ShAt h (σ.1.getD (nx x) 0) (slM M σ (nx x)) ∧ Pok (slM M σ (nx x)) ∧ (σ.1.getD (nx x) 0 = 1 ∨ 323 ≤ σ.1.getD (nx x) 0) := H.slot hx.nat.2
theorem Plb.poly' (H : Plb h cs σ vs M) : ∃ V, PolyAt h 304 V := H.2.2.2.2.2.2.2.2.1
noncomputable def cPieceCount (M : Nat → SH) (σ : SV) (x : Int32) : Int32 := ifC (Slt x) (Int32.ofNat (slM M σ (nx x)).length) (-1000001)
theorem c10_pieceCount (H : Plb h cs σ vs M) (x : Int32) : sX10_pieceCount E [aP (some 0), aI x] h (Qy cs σ vs M h (cPieceCount M σ x)) := by
  refine eX10_pieceCount ?_
  unfold PX10_pieceCount_0
  refine csI (s10_isSlot x) ⟨fun c => Qy.mk (ifC_neg (ifC0 rfl c)) H Fr.refl, fun c => (rdP_iff H.1).mpr ⟨_, rfl, ?_⟩⟩
  have hs := ifC1 rfl c
  obtain ⟨fs, g6, gf, g3⟩ := shl (H.sl hs).1
  exact cvP H.st.obj.1 (u8_slot H hs) ((rdI_iff g6).mpr ⟨_, gf, Qy.mk (ifC_pos hs) H Fr.refl⟩)
noncomputable def cDoubleArea (M : Nat → SH) (σ : SV) (x i : Int32) : Int32 := ifC (Has M σ x i) (areaP ((slM M σ (nx x)).getD (nx i) [])) (-1000001)
theorem c10_doubleArea (H : Plb h cs σ vs M) (x i : Int32) : sX10_doubleArea E [aP (some 0), aI x, aI i] h (Qy cs σ vs M h (cDoubleArea M σ x i)) := by
  refine eX10_doubleArea ?_
  unfold PX10_doubleArea_0
  refine cvI H.1 (s10_hasPiece H x i) ⟨fun c => (rdP_iff H.1).mpr ⟨_, rfl, ?_⟩, fun c => Qy.mk (ifC_neg (ifC0 rfl c)) H Fr.refl⟩
  have hh := ifC1 rfl c
  have hs := hh.1
  obtain ⟨_, g6⟩ := (H.sl hs).1.ad
  obtain ⟨V, P⟩ := H.poly'
  have dj := (H.sl hs).2.2
  refine cvP H.st.obj.1 (u8_slot H hs) ((rdP_iff H.1).mpr ⟨_, rfl, cvVq g6 (u6_copy (H.sl hs).1 P (by omega) hh.2 0) fun h8 q8 => ?_⟩)
  have H8 := H.poly ⟨_, q8.1⟩ q8.2
  obtain ⟨_, g5⟩ := q8.1.ad
  refine (rdP_iff H8.1).mpr ⟨_, rfl, cvI g5 (s5_area q8.1) (Qy.mk ?_ H8 (q8.2.weak (by omega) (by omega)))⟩
  rw [tr0]; exact ifC_pos hh
theorem hull_ne {T : List PT} : hullP T ≠ [] := by
  unfold hullP
  rw [show (18 : Nat) = 17 + 1 from rfl, hullGo_succ]; simp
theorem PolyAt.obj {a : Nat} {V : List PT} (P : PolyAt h a V) : ∃ fs, h[a]? = some (.inr (5, fs)) ∧ fs[2]? = some (aI (Int32.ofNat V.length)) ∧ V.length ≤ 18 := by
  obtain ⟨_, _, _, _, _, _, _, h1, -, -, h4, -⟩ := P
  exact ⟨_, h1, rfl, h4⟩
noncomputable def cHullSize (M : Nat → SH) (σ : SV) (x : Int32) : Int32 := ifC (Slt x) (ifC (slM M σ (nx x) = []) (-1000002) (Int32.ofNat (hullP (slM M σ (nx x)).flatten).length)) (-1000001)
theorem c10_hullSize (H : Plb h cs σ vs M) (x : Int32) : sX10_hullSize E [aP (some 0), aI x] h (Qy cs σ vs M h (cHullSize M σ x)) := by
  refine eX10_hullSize ?_
  unfold PX10_hullSize_0
  refine csI (s10_isSlot x) ⟨fun c => (rdP_iff H.1).mpr ⟨_, rfl, ?_⟩, fun c => Qy.mk (ifC_neg (ifC0 rfl c)) H Fr.refl⟩
  have hs := ifC1 rfl c
  obtain ⟨_, g6⟩ := (H.sl hs).1.ad
  obtain ⟨V, P⟩ := H.poly'
  have dj := (H.sl hs).2.2
  refine cvP H.st.obj.1 (u8_slot H hs) (cvI g6 (s6_isEmpty (H.sl hs).1) ⟨fun c2 => ?_, fun c2 => ?_⟩)
  · have hne := r00 rfl c2
    obtain ⟨_, g5⟩ := P.ad
    refine (rdP_iff H.1).mpr ⟨_, rfl, (rdP_iff H.1).mpr ⟨_, rfl, cvP H.st.obj.1 (u8_slot H hs) (cvVq g5 (s5_setHull (H.sl hs).1 (flat_ne hne (H.sl hs).2.1) P (by omega)) fun h8 q8 => ?_)⟩⟩
    have H8 := H.poly ⟨_, q8.1⟩ q8.2
    obtain ⟨fs, g8, gf, -⟩ := q8.1.obj
    exact (rdP_iff H8.1).mpr ⟨_, rfl, (rdI_iff g8).mpr ⟨_, gf, Qy.mk ((ifC_pos hs).trans (ifC_neg hne)) H8 (q8.2.weak (by omega) (by omega))⟩⟩
  · exact Qy.mk ((ifC_pos hs).trans (ifC_pos (r01 rfl c2))) H Fr.refl
noncomputable def cHullVertex (M : Nat → SH) (σ : SV) (x v c : Int32) : Int32 := ifC (Slt x ∧ Prt c ∧ 0 ≤ v) (ifC (slM M σ (nx x) = []) (-1000002) (ifC (v < Int32.ofNat (hullP (slM M σ (nx x)).flatten).length) (if c = 0 then (vAt (hullP (slM M σ (nx x)).flatten) (nx v)).1 else (vAt (hullP (slM M σ (nx x)).flatten) (nx v)).2) (-1000009))) (-1000001)
theorem u5_x {a : Nat} {V : List PT} (P : PolyAt h a V) (hne : V ≠ []) {v : Int32} (h0 : 0 ≤ v) (hl : v < Int32.ofNat V.length) : sX5_x E [aP (some a), aI v] h (kI fun r h' => r = (vAt V (nx v)).1 ∧ h' = h) := by
  obtain ⟨_, _, -, hle⟩ := P.obj
  have hn := nat_of (i32_not_lt.mpr h0) (i32_not_le.mpr hl) (by omega)
  have := s5_x (E := E) P hne (Nat.le_of_lt hn.2)
  rw [← hn.1] at this; exact this
theorem u5_y {a : Nat} {V : List PT} (P : PolyAt h a V) (hne : V ≠ []) {v : Int32} (h0 : 0 ≤ v) (hl : v < Int32.ofNat V.length) : sX5_y E [aP (some a), aI v] h (kI fun r h' => r = (vAt V (nx v)).2 ∧ h' = h) := by
  obtain ⟨_, _, -, hle⟩ := P.obj
  have hn := nat_of (i32_not_lt.mpr h0) (i32_not_le.mpr hl) (by omega)
  have := s5_y (E := E) P hne (Nat.le_of_lt hn.2)
  rw [← hn.1] at this; exact this
theorem c10_hullVertex (H : Plb h cs σ vs M) (x v k : Int32) : sX10_hullVertex E [aP (some 0), aI x, aI v, aI k] h (Qy cs σ vs M h (cHullVertex M σ x v k)) := by
  refine eX10_hullVertex ?_
  unfold PX10_hullVertex_0
  refine csI (s10_isSlot x) ⟨fun c => Qy.mk (ifC_neg fun q => ifC0 rfl c q.1) H Fr.refl, fun c => csI (s10_isPart k) ⟨fun c2 => Qy.mk (ifC_neg fun q => ifC0 rfl c2 q.2.1) H Fr.refl, fun c2 => ⟨fun c3 => (rdP_iff H.1).mpr ⟨_, rfl, ?_⟩, fun c3 => Qy.mk (ifC_neg fun q => c3 q.2.2) H Fr.refl⟩⟩⟩
  have hs := ifC1 rfl c
  have hk := ifC1 rfl c2
  have h1 : Slt x ∧ Prt k ∧ 0 ≤ v := ⟨hs, hk, c3⟩
  obtain ⟨_, g6⟩ := (H.sl hs).1.ad
  obtain ⟨V, P⟩ := H.poly'
  have dj := (H.sl hs).2.2
  refine cvP H.st.obj.1 (u8_slot H hs) (cvI g6 (s6_isEmpty (H.sl hs).1) ⟨fun c2 => ?_, fun c2 => Qy.mk ((ifC_pos h1).trans (ifC_pos (r01 rfl c2))) H Fr.refl⟩)
  have hne := r00 rfl c2
  obtain ⟨_, g5⟩ := P.ad
  refine (rdP_iff H.1).mpr ⟨_, rfl, (rdP_iff H.1).mpr ⟨_, rfl, cvP H.st.obj.1 (u8_slot H hs) (cvVq g5 (s5_setHull (H.sl hs).1 (flat_ne hne (H.sl hs).2.1) P (by omega)) fun h8 q8 => ?_)⟩⟩
  have H8 := H.poly ⟨_, q8.1⟩ q8.2
  have f8 : Fr 0 313 h h8 := q8.2.weak (by omega) (by omega)
  obtain ⟨fs, g8, gf, -⟩ := q8.1.obj
  refine (rdP_iff H8.1).mpr ⟨_, rfl, (rdI_iff g8).mpr ⟨_, gf, fun c5 => ⟨fun c6 => (rdP_iff H8.1).mpr ⟨_, rfl, ?_⟩, fun c6 => (rdP_iff H8.1).mpr ⟨_, rfl, ?_⟩⟩, fun c5 => Qy.mk (((ifC_pos h1).trans (ifC_neg hne)).trans (ifC_neg c5)) H8 f8⟩⟩
  · exact cvI g8 (u5_y q8.1 hull_ne c3 c5) (Qy.mk ((((ifC_pos h1).trans (ifC_neg hne)).trans (ifC_pos c5)).trans (if_neg c6)) H8 f8)
  · exact cvI g8 (u5_x q8.1 hull_ne c3 c5) (Qy.mk ((((ifC_pos h1).trans (ifC_neg hne)).trans (ifC_pos c5)).trans (if_pos c6)) H8 f8)
noncomputable def cExtent (M : Nat → SH) (σ : SV) (x d : Int32) : Int32 := ifC (Slt x ∧ Dirn d) (ifC (slM M σ (nx x) = []) (-1000002) (reachP (slM M σ (nx x)).flatten (dirxF (nx d)) (diryF (nx d)))) (-1000001)
theorem c10_extent (H : Plb h cs σ vs M) (x d : Int32) : sX10_extent E [aP (some 0), aI x, aI d] h (Qy cs σ vs M h (cExtent M σ x d)) := by
  refine eX10_extent ?_
  unfold PX10_extent_0
  refine csI (s10_isSlot x) ⟨fun c => Qy.mk (ifC_neg fun q => ifC0 rfl c q.1) H Fr.refl, fun c => csI (s10_isDirection d) ⟨fun c2 => (rdP_iff H.1).mpr ⟨_, rfl, ?_⟩, fun c2 => Qy.mk (ifC_neg fun q => ifC0 rfl c2 q.2) H Fr.refl⟩⟩
  have hs := ifC1 rfl c
  have hd := ifC1 rfl c2
  have h1 : Slt x ∧ Dirn d := ⟨hs, hd⟩
  obtain ⟨_, g6⟩ := (H.sl hs).1.ad
  refine cvP H.st.obj.1 (u8_slot H hs) (cvI g6 (s6_isEmpty (H.sl hs).1) ⟨fun c2 => ?_, fun c2 => Qy.mk ((ifC_pos h1).trans (ifC_pos (r01 rfl c2))) H Fr.refl⟩)
  have hne := r00 rfl c2
  exact (rdP_iff H.1).mpr ⟨_, rfl, cvP H.st.obj.1 (u8_slot H hs) (csI (s10_dirX hd) (csI (s10_dirY hd) (cvI g6 (s6_reach (H.sl hs).1 (flat_ne hne (H.sl hs).2.1) _ _) (Qy.mk ((ifC_pos h1).trans (ifC_neg hne)) H Fr.refl))))⟩
/-! sums -/
def sumM (M : Nat → SH) (σ : SV) (f x i y j : Int32) : List PT := sumP ((slM M σ (nx x)).getD (nx i) []) (((slM M σ (nx y)).getD (nx j) []).map (trP (if f = 1 then 2 else 0)))
theorem Plb.pr (H : Plb h cs σ vs M) : PairAt h 19 := H.2.2.2.1
theorem s10_sumOf (H : Plb h cs σ vs M) {f x i y j : Int32} (hx : Has M σ x i) (hy : Has M σ y j) : sX10_sumOf E [aP (some 0), aI f, aI x, aI i, aI y, aI j] h (kP fun r h' => r = some 26 ∧ PolyAt h' 26 (sumM M σ f x i y j) ∧ Plb h' cs σ vs M ∧ Fr 0 313 h h') := by
  refine eX10_sumOf ?_
  unfold PX10_sumOf_0
  obtain ⟨C, F, P⟩ := H.pr
  have dx := (H.sl hx.1).2.2
  have dy := (H.sl hy.1).2.2
  have nxi := hx.2.nat (H.sl hx.1).1.lens.1
  have nyj := hy.2.nat (H.sl hy.1).1.lens.1
  refine (rdP_iff H.1).mpr ⟨_, rfl, (rdP_iff H.1).mpr ⟨_, rfl, cvP H.st.obj.1 (u8_slot H hx.1) ((rdP_iff H.1).mpr ⟨_, rfl, cvP H.st.obj.1 (u8_slot H hy.1) ?_⟩)⟩⟩
  have go : ∀ t : Int32, t = (if f = 1 then 2 else 0) → PX10_sumOf_34 E (kP fun r h' => r = some 26 ∧ PolyAt h' 26 (sumM M σ f x i y j) ∧ Plb h' cs σ vs M ∧ Fr 0 313 h h') h (some 0) (some 19) (some (σ.1.getD (nx x) 0)) i (some (σ.1.getD (nx y) 0)) j t := fun t et => by
    unfold PX10_sumOf_34
    have sp := s3_addUp (E := E) P (H.sl hx.1).1 (H.sl hy.1).1 (H.sl hx.1).2.1 (H.sl hy.1).2.1 (by omega) (by omega) nxi.2 nyj.2 t
    rw [← nxi.1, ← nyj.1, tr0] at sp
    refine cvVq P.1 sp fun h2 q2 => ?_
    have H2 := H.pair ⟨_, _, q2.1⟩ q2.2
    refine (rdP_iff H2.1).mpr ⟨_, rfl, (rdP_iff q2.1.1).mpr ⟨_, rfl, _, rfl, rfl, ?_, H2, q2.2.weak (by omega) (by omega)⟩⟩
    unfold sumM; rw [← et]; exact q2.1.2.2.1
  exact ⟨fun c => go 0 (by rw [if_neg c]), fun c => go 2 (by rw [if_pos c])⟩
theorem sumM_ne (H : Plb h cs σ vs M) {f x i y j : Int32} (hx : Has M σ x i) : sumM M σ f x i y j ≠ [] := by
  refine sumP_ne fun c => ?_
  have := ((H.sl hx.1).2.1 _ (hx.2.nat (H.sl hx.1).1.lens.1).2).1
  rw [c] at this; simp at this
noncomputable def cSumSize (M : Nat → SH) (σ : SV) (f x i y j : Int32) : Int32 := ifC (Prt f ∧ Has M σ x i ∧ Has M σ y j) (Int32.ofNat (sumM M σ f x i y j).length) (-1000001)
theorem c10_sumSize (H : Plb h cs σ vs M) (f x i y j : Int32) : sX10_sumSize E [aP (some 0), aI f, aI x, aI i, aI y, aI j] h (Qy cs σ vs M h (cSumSize M σ f x i y j)) := by
  refine eX10_sumSize ?_
  unfold PX10_sumSize_0
  refine csI (s10_isPart f) ⟨fun c => Qy.mk (ifC_neg fun q => ifC0 rfl c q.1) H Fr.refl, fun c => cvI H.1 (s10_hasPiece H x i) ⟨fun c2 => Qy.mk (ifC_neg fun q => ifC0 rfl c2 q.2.1) H Fr.refl, fun c2 => cvI H.1 (s10_hasPiece H y j) ⟨fun c3 => ?_, fun c3 => Qy.mk (ifC_neg fun q => ifC0 rfl c3 q.2.2) H Fr.refl⟩⟩⟩
  refine ⟨0, _, _, rfl, H.1, s10_sumOf H (f := f) (ifC1 rfl c2) (ifC1 rfl c3), kP.mono fun r h8 q8 => ?_⟩
  obtain ⟨rfl, P8, H8, f8⟩ := q8
  obtain ⟨fs, g8, gf, -⟩ := P8.obj
  exact (rdI_iff g8).mpr ⟨_, gf, Qy.mk (ifC_pos ⟨ifC1 rfl c, ifC1 rfl c2, ifC1 rfl c3⟩) H8 f8⟩
noncomputable def cSumVertex (M : Nat → SH) (σ : SV) (f x i y j v : Int32) : Int32 := ifC (Prt f ∧ Has M σ x i ∧ Has M σ y j ∧ 0 ≤ v) (ifC (v < Int32.ofNat (sumM M σ f x i y j).length) (1000 * (vAt (sumM M σ f x i y j) (nx v)).1 + (vAt (sumM M σ f x i y j) (nx v)).2) (-1000009)) (-1000001)
theorem c10_sumVertex (H : Plb h cs σ vs M) (f x i y j v : Int32) : sX10_sumVertex E [aP (some 0), aI f, aI x, aI i, aI y, aI j, aI v] h (Qy cs σ vs M h (cSumVertex M σ f x i y j v)) := by
  refine eX10_sumVertex ?_
  unfold PX10_sumVertex_0
  refine csI (s10_isPart f) ⟨fun c => Qy.mk (ifC_neg fun q => ifC0 rfl c q.1) H Fr.refl, fun c => cvI H.1 (s10_hasPiece H x i) ⟨fun c2 => Qy.mk (ifC_neg fun q => ifC0 rfl c2 q.2.1) H Fr.refl, fun c2 => cvI H.1 (s10_hasPiece H y j) ⟨fun c3 => Qy.mk (ifC_neg fun q => ifC0 rfl c3 q.2.2.1) H Fr.refl, fun c3 => ⟨fun c4 => ?_, fun c4 => Qy.mk (ifC_neg fun q => c4 q.2.2.2) H Fr.refl⟩⟩⟩⟩
  have h1 : Prt f ∧ Has M σ x i ∧ Has M σ y j ∧ 0 ≤ v := ⟨ifC1 rfl c, ifC1 rfl c2, ifC1 rfl c3, c4⟩
  refine ⟨0, _, _, rfl, H.1, s10_sumOf H (f := f) h1.2.1 h1.2.2.1, kP.mono fun r h8 q8 => ?_⟩
  obtain ⟨rfl, P8, H8, f8⟩ := q8
  obtain ⟨fs, g8, gf, -⟩ := P8.obj
  have hne := sumM_ne H (f := f) (y := y) (j := j) h1.2.1
  refine (rdI_iff g8).mpr ⟨_, gf, fun c5 => ?_, fun c5 => Qy.mk ((ifC_pos h1).trans (ifC_neg c5)) H8 f8⟩
  exact cvI g8 (u5_x P8 hne c4 c5) (cvI g8 (u5_y P8 hne c4 c5) (Qy.mk ((ifC_pos h1).trans (ifC_pos c5)) H8 f8))
noncomputable def cSumArea (M : Nat → SH) (σ : SV) (x i y j : Int32) : Int32 := ifC (Has M σ x i ∧ Has M σ y j) (areaP (sumM M σ 0 x i y j)) (-1000001)
theorem c10_sumArea (H : Plb h cs σ vs M) (x i y j : Int32) : sX10_sumDoubleArea E [aP (some 0), aI x, aI i, aI y, aI j] h (Qy cs σ vs M h (cSumArea M σ x i y j)) := by
  refine eX10_sumDoubleArea ?_
  unfold PX10_sumDoubleArea_0
  refine cvI H.1 (s10_hasPiece H x i) ⟨fun c2 => Qy.mk (ifC_neg fun q => ifC0 rfl c2 q.1) H Fr.refl, fun c2 => cvI H.1 (s10_hasPiece H y j) ⟨fun c3 => ?_, fun c3 => Qy.mk (ifC_neg fun q => ifC0 rfl c3 q.2) H Fr.refl⟩⟩
  refine ⟨0, _, _, rfl, H.1, s10_sumOf H (f := 0) (ifC1 rfl c2) (ifC1 rfl c3), kP.mono fun r h8 q8 => ?_⟩
  obtain ⟨rfl, P8, H8, f8⟩ := q8
  obtain ⟨fs, g8, gf, -⟩ := P8.obj
  exact cvI g8 (s5_area P8) (Qy.mk (ifC_pos ⟨ifC1 rfl c2, ifC1 rfl c3⟩) H8 f8)
/-! two shapes -/
def Em2 (M : Nat → SH) (σ : SV) (a b : Int32) : Prop := slM M σ (nx a) = [] ∨ slM M σ (nx b) = []
noncomputable def cContact (M : Nat → SH) (σ : SV) (a b x y : Int32) : Int32 := ifC (Slt a ∧ Slt b ∧ Nea x ∧ Nea y) (ifC (Em2 M σ a b) (-1000002) (relP (slM M σ (nx a)) (slM M σ (nx b)) x y)) (-1000001)
theorem c10_contact (H : Plb h cs σ vs M) (a b x y : Int32) : sX10_contact E [aP (some 0), aI a, aI b, aI x, aI y] h (Qy cs σ vs M h (cContact M σ a b x y)) := by
  refine eX10_contact ?_
  unfold PX10_contact_0
  refine csI (s10_isSlot a) ⟨fun c => Qy.mk (ifC_neg fun q => ifC0 rfl c q.1) H Fr.refl, fun c => csI (s10_isSlot b) ⟨fun c2 => Qy.mk (ifC_neg fun q => ifC0 rfl c2 q.2.1) H Fr.refl, fun c2 => csI (s10_isNear x) ⟨fun c3 => Qy.mk (ifC_neg fun q => ifC0 rfl c3 q.2.2.1) H Fr.refl, fun c3 => csI (s10_isNear y) ⟨fun c4 => ?_, fun c4 => Qy.mk (ifC_neg fun q => ifC0 rfl c4 q.2.2.2) H Fr.refl⟩⟩⟩⟩
  have h1 : Slt a ∧ Slt b ∧ Nea x ∧ Nea y := ⟨ifC1 rfl c, ifC1 rfl c2, ifC1 rfl c3, ifC1 rfl c4⟩
  refine cvI H.1 (u10_empty H h1.1) ⟨fun c5 => Qy.mk ((ifC_pos h1).trans (ifC_pos (Or.inl (r01 rfl c5)))) H Fr.refl, fun c5 => cvI H.1 (u10_empty H h1.2.1) ⟨fun c6 => (rdP_iff H.1).mpr ⟨_, rfl, (rdP_iff H.1).mpr ⟨_, rfl, cvP H.st.obj.1 (u8_slot H h1.1) ((rdP_iff H.1).mpr ⟨_, rfl, cvP H.st.obj.1 (u8_slot H h1.2.1) ?_⟩)⟩⟩, fun c6 => Qy.mk ((ifC_pos h1).trans (ifC_pos (Or.inr (r01 rfl c6)))) H Fr.refl⟩⟩
  have d1 := (H.sl h1.1).2.2
  have d2 := (H.sl h1.2.1).2.2
  obtain ⟨C, F, P⟩ := H.pr
  refine cvIq P.1 (s3_relation ⟨C, F, P⟩ (H.sl h1.1).1 (H.sl h1.2.1).1 (H.sl h1.1).2.1 (H.sl h1.2.1).2.1 (by omega) (by omega) x y) fun r h8 q8 => ?_
  exact Qy.mk (((ifC_pos h1).trans (ifC_neg fun q => q.elim (r00 rfl c5) (r00 rfl c6))).trans q8.1.symm) (H.pair q8.2.1 q8.2.2) (q8.2.2.weak (by omega) (by omega))
noncomputable def cGap (M : Nat → SH) (σ : SV) (a b x y p : Int32) : Int32 := ifC (Slt a ∧ Slt b ∧ Nea x ∧ Nea y ∧ Prt p) (ifC (Em2 M σ a b) (-1000002) (partF (gapP (slM M σ (nx a)) (slM M σ (nx b)) x y) p)) (-1000001)
theorem c10_gap (H : Plb h cs σ vs M) (a b x y p : Int32) : sX10_squaredGap E [aP (some 0), aI a, aI b, aI x, aI y, aI p] h (Qy cs σ vs M h (cGap M σ a b x y p)) := by
  refine eX10_squaredGap ?_
  unfold PX10_squaredGap_0
  refine csI (s10_isSlot a) ⟨fun c => Qy.mk (ifC_neg fun q => ifC0 rfl c q.1) H Fr.refl, fun c => csI (s10_isSlot b) ⟨fun c2 => Qy.mk (ifC_neg fun q => ifC0 rfl c2 q.2.1) H Fr.refl, fun c2 => csI (s10_isNear x) ⟨fun c3 => Qy.mk (ifC_neg fun q => ifC0 rfl c3 q.2.2.1) H Fr.refl, fun c3 => csI (s10_isNear y) ⟨fun c4 => Qy.mk (ifC_neg fun q => ifC0 rfl c4 q.2.2.2.1) H Fr.refl, fun c4 => csI (s10_isPart p) ⟨fun c7 => ?_, fun c7 => Qy.mk (ifC_neg fun q => ifC0 rfl c7 q.2.2.2.2) H Fr.refl⟩⟩⟩⟩⟩
  have h1 : Slt a ∧ Slt b ∧ Nea x ∧ Nea y ∧ Prt p := ⟨ifC1 rfl c, ifC1 rfl c2, ifC1 rfl c3, ifC1 rfl c4, ifC1 rfl c7⟩
  refine cvI H.1 (u10_empty H h1.1) ⟨fun c5 => Qy.mk ((ifC_pos h1).trans (ifC_pos (Or.inl (r01 rfl c5)))) H Fr.refl, fun c5 => cvI H.1 (u10_empty H h1.2.1) ⟨fun c6 => (rdP_iff H.1).mpr ⟨_, rfl, (rdP_iff H.1).mpr ⟨_, rfl, cvP H.st.obj.1 (u8_slot H h1.1) ((rdP_iff H.1).mpr ⟨_, rfl, cvP H.st.obj.1 (u8_slot H h1.2.1) ?_⟩)⟩⟩, fun c6 => Qy.mk ((ifC_pos h1).trans (ifC_pos (Or.inr (r01 rfl c6)))) H Fr.refl⟩⟩
  have d1 := (H.sl h1.1).2.2
  have d2 := (H.sl h1.2.1).2.2
  obtain ⟨C, F, P⟩ := H.pr
  refine cvVq P.1 (s3_gap ⟨C, F, P⟩ (H.sl h1.1).1 (H.sl h1.2.1).1 (H.sl h1.1).2.1 (H.sl h1.2.1).2.1 (by omega) (by omega) x y) fun h8 q8 => ?_
  obtain ⟨⟨C8, P8⟩, f8⟩ := q8
  have H8 := H.pair ⟨_, _, P8⟩ f8
  refine (rdP_iff H8.1).mpr ⟨_, rfl, (rdP_iff P8.1).mpr ⟨_, rfl, cvI P8.2.2.2 (s0_part P8.2.2.2 p) ?_⟩⟩
  exact Qy.mk ((ifC_pos h1).trans (ifC_neg fun q => q.elim (r00 rfl c5) (r00 rfl c6))) H8 (f8.weak (by omega) (by omega))
noncomputable def cSlide (M : Nat → SH) (σ : SV) (a b x y d p : Int32) : Int32 := ifC ((Slt a ∧ Slt b) ∧ Nea x ∧ Nea y ∧ Dirn d ∧ Prt p) (ifC (Em2 M σ a b) (-1000002) (if relP (slM M σ (nx a)) (slM M σ (nx b)) x y = 2 then -1000002 else if stbP (slM M σ (nx a)) (slM M σ (nx b)) x y (dirxF (nx d)) (diryF (nx d)) = true then partF (stpP (slM M σ (nx a)) (slM M σ (nx b)) x y (dirxF (nx d)) (diryF (nx d))) p else -1000009)) (-1000001)
theorem c10_slide (H : Plb h cs σ vs M) (a b x y d p : Int32) : sX10_slide E [aP (some 0), aI a, aI b, aI x, aI y, aI d, aI p] h (Qy cs σ vs M h (cSlide M σ a b x y d p)) := by
  refine eX10_slide ?_
  unfold PX10_slide_0
  have go : ∀ s0 : Int32, s0 = ifC (Slt a ∧ Slt b) 1 0 → PX10_slide_19 E (Qy cs σ vs M h (cSlide M σ a b x y d p)) h (some 0) a b x y d p s0 := fun s0 e0 => by
    unfold PX10_slide_19
    refine ⟨fun c => Qy.mk (ifC_neg fun q => ifC0 e0 c q.1) H Fr.refl, fun c => csI (s10_isNear x) ⟨fun c3 => Qy.mk (ifC_neg fun q => ifC0 rfl c3 q.2.1) H Fr.refl, fun c3 => csI (s10_isNear y) ⟨fun c4 => Qy.mk (ifC_neg fun q => ifC0 rfl c4 q.2.2.1) H Fr.refl, fun c4 => csI (s10_isDirection d) ⟨fun c6 => Qy.mk (ifC_neg fun q => ifC0 rfl c6 q.2.2.2.1) H Fr.refl, fun c6 => csI (s10_isPart p) ⟨fun c7 => ?_, fun c7 => Qy.mk (ifC_neg fun q => ifC0 rfl c7 q.2.2.2.2) H Fr.refl⟩⟩⟩⟩⟩
    have h1 : (Slt a ∧ Slt b) ∧ Nea x ∧ Nea y ∧ Dirn d ∧ Prt p := ⟨ifC1 e0 c, ifC1 rfl c3, ifC1 rfl c4, ifC1 rfl c6, ifC1 rfl c7⟩
    refine cvI H.1 (u10_empty H h1.1.1) ⟨fun c5 => Qy.mk ((ifC_pos h1).trans (ifC_pos (Or.inl (r01 rfl c5)))) H Fr.refl, fun c5 => cvI H.1 (u10_empty H h1.1.2) ⟨fun c6 => (rdP_iff H.1).mpr ⟨_, rfl, cvP H.st.obj.1 (u8_slot H h1.1.1) ((rdP_iff H.1).mpr ⟨_, rfl, cvP H.st.obj.1 (u8_slot H h1.1.2) ((rdP_iff H.1).mpr ⟨_, rfl, ?_⟩)⟩)⟩, fun c6 => Qy.mk ((ifC_pos h1).trans (ifC_pos (Or.inr (r01 rfl c6)))) H Fr.refl⟩⟩
    have d1 := (H.sl h1.1.1).2.2
    have d2 := (H.sl h1.1.2).2.2
    have h2 : cSlide M σ a b x y d p = (if relP (slM M σ (nx a)) (slM M σ (nx b)) x y = 2 then -1000002 else if stbP (slM M σ (nx a)) (slM M σ (nx b)) x y (dirxF (nx d)) (diryF (nx d)) = true then partF (stpP (slM M σ (nx a)) (slM M σ (nx b)) x y (dirxF (nx d)) (diryF (nx d))) p else -1000009) := (ifC_pos h1).trans (ifC_neg fun q => q.elim (r00 rfl c5) (r00 rfl c6))
    obtain ⟨C, F, P⟩ := H.pr
    refine cvIq P.1 (s3_relation ⟨C, F, P⟩ (H.sl h1.1.1).1 (H.sl h1.1.2).1 (H.sl h1.1.1).2.1 (H.sl h1.1.2).2.1 (by omega) (by omega) x y) fun r h8 q8 => ?_
    obtain ⟨e8, P8, f8⟩ := q8
    have H8 := H.pair P8 f8
    refine ⟨fun c8 => (rdP_iff H8.1).mpr ⟨_, rfl, csI (s10_dirX h1.2.2.2.1) (csI (s10_dirY h1.2.2.2.1) ?_)⟩, fun c8 => Qy.mk (h2.trans (if_pos (e8.symm.trans c8))) H8 (f8.weak (by omega) (by omega))⟩
    have h3 := h2.trans (if_neg fun q => c8 (e8.trans q))
    obtain ⟨C8, F8, P8⟩ := P8
    refine cvIq P8.1 (s3_stopped ⟨C8, F8, P8⟩ (H8.sl h1.1.1).1 (H8.sl h1.1.2).1 (H8.sl h1.1.1).2.1 (H8.sl h1.1.2).2.1 (by omega) (by omega) x y _ _) fun r9 h9 q9 => ?_
    obtain ⟨e9, ⟨C9, P9⟩, f9⟩ := q9
    have H9 := H8.pair ⟨_, _, P9⟩ f9
    have ff : Fr 0 313 h h9 := (f8.trans f9).weak (by omega) (by omega)
    exact ⟨fun c9 => (rdP_iff H9.1).mpr ⟨_, rfl, (rdP_iff P9.1).mpr ⟨_, rfl, cvI P9.2.2.2 (s0_part P9.2.2.2 p) (Qy.mk (h3.trans (if_pos (r01 e9 c9))) H9 ff)⟩⟩, fun c9 => Qy.mk (h3.trans (if_neg (r00 e9 c9))) H9 ff⟩
  refine csI (s10_isSlot a) ⟨fun c => ?_, fun c => csI (s10_isSlot b) ⟨fun c2 => ?_, fun c2 => go 1 (ifC_pos ⟨ifC1 rfl c, ifC1 rfl c2⟩).symm⟩⟩
  · unfold PX10_slide_18; exact go 0 (ifC_neg fun q => ifC0 rfl c q.1).symm
  · unfold PX10_slide_18; exact go 0 (ifC_neg fun q => ifC0 rfl c2 q.2).symm
end QA
