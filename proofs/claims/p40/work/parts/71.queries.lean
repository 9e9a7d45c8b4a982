/-! the planner's questions about shapes -/
abbrev nx (x : Int32) : Nat := x.toNatClampNeg
def Qy (cs : List Int32) (σ : SV) (vs : List SV) (M : Nat → SH) (h : AH) (v : Int32) : Option AV → AH → Prop := kI fun r h' => r = v ∧ Plb h' cs σ vs M ∧ Fr 0 313 h h'
theorem Qy.mk {cs : List Int32} {σ : SV} {vs : List SV} {M : Nat → SH} {h h' : AH} {v r : Int32} (e : v = r) (H : Plb h' cs σ vs M) (f : Fr 0 313 h h') : Qy cs σ vs M h v (some (aI r)) h' := ⟨r, rfl, e.symm, H, f⟩
section QA
variable {E : EV} {h : AH} {cs : List Int32} {σ : SV} {vs : List SV} {M : Nat → SH}
theorem u8_slot (H : Plb h cs σ vs M) {x : Int32} (hx : Slt x) : sX8_slot E [aP (some 262), aI x] h (kP fun r h' => r = some (σ.1.getD (nx x) 0) ∧ h' = h) := by
  have := t8_slot (E := E) H.st hx.nat.2
  rw [← hx.nat.1] at this; exact this
theorem u10_empty (H : Plb h cs σ vs M) {x : Int32} (hx : Slt x) : sX10_isSlotEmpty E [aP (some 0), aI x] h (kI fun r h' => r = (if slM M σ (nx x) = [] then 1 else 0) ∧ h' = h) := by
  have := s10_isSlotEmpty (E := E) H hx.nat.2
  rw [← hx.nat.1] at this; exact this
theorem u6_copy {a p : Nat} {S : SH} {W V : List PT} (H : ShO h a S W) (P : PolyAt h p V) (d : p + 3 ≤ a ∨ a + 4 ≤ p) {i : Int32} (hi : Pce S i) (t : Int32) : sX6_copyPiece E [aP (some a), aI i, aI t, aP (some p)] h (kV fun h' => PolyAt h' p ((S.getD (nx i) []).map (trP t)) ∧ Fr p (p + 3) h h') := by
  have hn := hi.nat H.lens.1
  have := s6_copyPiece (E := E) H P d hn.2 t
  rw [← hn.1] at this; exact this
theorem Plb.sl (H : Plb h cs σ vs M) {x : Int32} (hx : Slt x) : ShAt h (σ.1.getD (nx x) 0) (slM M σ (nx x)) ∧ Pok (slM M σ (nx x)) ∧ (σ.1.getD (nx x) 0 = 1 ∨ 313 ≤ σ.1.getD (nx x) 0) := H.slot hx.nat.2
theorem Plb.poly' (H : Plb h cs σ vs M) : ∃ V, PolyAt h 304 V := H.2.2.2.2.2.2.2.2.1
noncomputable def cPieceCount (M : Nat → SH) (σ : SV) (x : Int32) : Int32 := ifC (Slt x) (Int32.ofNat (slM M σ (nx x)).length) (-1000001)
theorem c10_pieceCount (H : Plb h cs σ vs M) (x : Int32) : sX10_pieceCount E [aP (some 0), aI x] h (Qy cs σ vs M h (cPieceCount M σ x)) := by
  refine eX10_pieceCount ?_
  unfold PX10_pieceCount_0
  refine csI (s10_isSlot x) ⟨fun c => Qy.mk (ifC_neg (ifC0 rfl c)) H Fr.refl, fun c => (rdP_iff H.1).mpr ⟨_, rfl, ?_⟩⟩
  have hs := ifC1 rfl c
  obtain ⟨fs, g6, gf, g3⟩ := shl (H.sl hs).1
  exact cvP H.st.obj.1 (u8_slot H hs) ((rdI_iff g6).mpr ⟨_, gf, Qy.mk (ifC_pos hs) H Fr.refl⟩)
noncomputable def cDoubleArea (M : Nat → SH) (σ : SV) (x i : Int32) : Int32 := ifC (Has M σ x i) (areaP ((slM M σ (nx x)).getD (nx i) [])) (-1000001)
theorem c10_doubleArea (H : Plb h cs σ vs M) (x i : Int32) : sX10_doubleArea E [aP (some 0), aI x, aI i] h (Qy cs σ vs M h (cDoubleArea M σ x i)) := by
  refine eX10_doubleArea ?_
  unfold PX10_doubleArea_0
  refine cvI H.1 (s10_hasPiece H x i) ⟨fun c => (rdP_iff H.1).mpr ⟨_, rfl, ?_⟩, fun c => Qy.mk (ifC_neg (ifC0 rfl c)) H Fr.refl⟩
  have hh := ifC1 rfl c
  have hs := hh.1
  obtain ⟨_, g6⟩ := (H.sl hs).1.ad
  obtain ⟨V, P⟩ := H.poly'
  have dj := (H.sl hs).2.2
  refine cvP H.st.obj.1 (u8_slot H hs) ((rdP_iff H.1).mpr ⟨_, rfl, cvVq g6 (u6_copy (H.sl hs).1 P (by omega) hh.2 0) fun h8 q8 => ?_⟩)
  have H8 := H.poly ⟨_, q8.1⟩ q8.2
  obtain ⟨_, g5⟩ := q8.1.ad
  refine (rdP_iff H8.1).mpr ⟨_, rfl, cvI g5 (s5_area q8.1) (Qy.mk ?_ H8 (q8.2.weak (by omega) (by omega)))⟩
  rw [tr0]; exact ifC_pos hh
theorem PolyAt.obj {a : Nat} {V : List PT} (P : PolyAt h a V) : ∃ fs, h[a]? = some (.inr (5, fs)) ∧ fs[2]? = some (aI (Int32.ofNat V.length)) ∧ V.length ≤ 18 := by
  obtain ⟨_, _, _, _, _, _, _, h1, -, -, h4, -⟩ := P
  exact ⟨_, h1, rfl, h4⟩
noncomputable def cExtent (M : Nat → SH) (σ : SV) (x d : Int32) : Int32 := ifC (Slt x ∧ Dirn d) (ifC (slM M σ (nx x) = []) (-1000002) (reachP (slM M σ (nx x)).flatten (dirxF (nx d)) (diryF (nx d)))) (-1000001)
theorem c10_extent (H : Plb h cs σ vs M) (x d : Int32) : sX10_extent E [aP (some 0), aI x, aI d] h (Qy cs σ vs M h (cExtent M σ x d)) := by
  refine eX10_extent ?_
  unfold PX10_extent_0
  refine csI (s10_isSlot x) ⟨fun c => Qy.mk (ifC_neg fun q => ifC0 rfl c q.1) H Fr.refl, fun c => csI (s10_isDirection d) ⟨fun c2 => (rdP_iff H.1).mpr ⟨_, rfl, ?_⟩, fun c2 => Qy.mk (ifC_neg fun q => ifC0 rfl c2 q.2) H Fr.refl⟩⟩
  have hs := ifC1 rfl c
  have hd := ifC1 rfl c2
  have h1 : Slt x ∧ Dirn d := ⟨hs, hd⟩
  obtain ⟨_, g6⟩ := (H.sl hs).1.ad
  refine cvP H.st.obj.1 (u8_slot H hs) (cvI g6 (s6_isEmpty (H.sl hs).1) ⟨fun c2 => ?_, fun c2 => Qy.mk ((ifC_pos h1).trans (ifC_pos (r01 rfl c2))) H Fr.refl⟩)
  have hne := r00 rfl c2
  exact (rdP_iff H.1).mpr ⟨_, rfl, cvP H.st.obj.1 (u8_slot H hs) (csI (s10_dirX hd) (csI (s10_dirY hd) (cvI g6 (s6_reach (H.sl hs).1 (flat_ne hne (H.sl hs).2.1) _ _) (Qy.mk ((ifC_pos h1).trans (ifC_neg hne)) H Fr.refl))))⟩
/-! sums -/
theorem Plb.pr (H : Plb h cs σ vs M) : PairAt h 19 := H.2.2.2.1
/-! two shapes -/
end QA
