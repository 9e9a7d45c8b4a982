/-! areas, the bounding box, touching pairs, free places -/
def pkItem (M : Nat → SH) (σ : SV) (acc : Int32) (k : Nat) : Int32 := (List.range (itM M σ k).length).foldl (fun s i => s + areaP ((itM M σ k).getD i [])) acc
def cPacked (M : Nat → SH) (σ : SV) : Int32 := (List.range σ.2.1.length).foldl (pkItem M σ) 0
def bxS (S : SH) : Int32 × Int32 × Int32 × Int32 := (pfold S.flatten).2.2.2
def isV (M : Nat → SH) (σ : SV) (k : Nat) (s : Int32) : Int32 := if s.toInt = 0 then iX σ k + (bxS (itM M σ k)).1 else if s.toInt = 1 then iY σ k + (bxS (itM M σ k)).2.1 else if s.toInt = 2 then iX σ k + (bxS (itM M σ k)).2.2.1 else iY σ k + (bxS (itM M σ k)).2.2.2
def bbStep (M : Nat → SH) (σ : SV) (s : Int32) (b : Int32) (k : Nat) : Int32 := (fun v : Int32 => if (2 : Int32) ≤ s then (if b < v then v else b) else (if v < b then v else b)) (isV M σ (k + 1) s)
noncomputable def cBB (M : Nat → SH) (σ : SV) (s : Int32) : Int32 := ifC (¬ s < 0 ∧ s ≤ 3) (if σ.2.1.length = 0 then -1000009 else (List.range (σ.2.1.length - 1)).foldl (bbStep M σ s) (isV M σ 0 s)) (-1000001)
def tpGo (M : Nat → SH) (σ : SV) (i j : Nat) : Int32 := (pr2 σ.2.1.length i j).foldl (fun s ij => if relP (itM M σ ij.1) (itM M σ ij.2) (iX σ ij.2 - iX σ ij.1) (iY σ ij.2 - iY σ ij.1) = 1 then s + 1 else s) 0
def cTouch (M : Nat → SH) (σ : SV) : Int32 := tpGo M σ σ.2.1.length (σ.2.1.length + 1)
noncomputable def cFree (M : Nat → SH) (σ : SV) (x : Int32) : Int32 := ifC (Slt x) (ifC (slM M σ (nx x) = []) (-1000002) (Int32.ofNat (cntP (obsP M σ.2.1 (slM M σ (nx x)) σ.2.2.2.2 (-1)) (bxP (slM M σ (nx x)) σ.2.2.1 σ.2.2.2.1)))) (-1000001)
section I2
variable {E : EV} {h : AH} {cs : List Int32} {σ : SV} {vs : List SV} {M : Nat → SH}
theorem c10_packed (H : Plb h cs σ vs M) : sX10_packedDoubleArea E [aP (some 0)] h (Qy cs σ vs M h (cPacked M σ)) := by
  have h8 := H.n8
  refine uX10_packedDoubleArea (fun m h' l0 l1 l2 => ∃ k, m = (σ.2.1.length - k) * 100 ∧ k ≤ σ.2.1.length ∧ l0 = some 0 ∧ l1 = (List.range k).foldl (pkItem M σ) 0 ∧ l2 = Int32.ofNat k ∧ Plb h' cs σ vs M ∧ Fr 0 313 h h')
    (fun m h' l0 l1 l2 l3 l4 => ∃ k i, m = (σ.2.1.length - k) * 100 - 1 - i ∧ k < σ.2.1.length ∧ i ≤ (itM M σ k).length ∧ l0 = some 0 ∧ l1 = (List.range i).foldl (fun s i => s + areaP ((itM M σ k).getD i [])) ((List.range k).foldl (pkItem M σ) 0) ∧ l2 = Int32.ofNat k ∧ l3 = some (itA σ.2.1 k).1 ∧ l4 = Int32.ofNat i ∧ Plb h' cs σ vs M ∧ Fr 0 313 h h') ?_ ?_ ?_
  · exact ⟨_, 0, rfl, Nat.zero_le _, rfl, rfl, rfl, H, Fr.refl⟩
  · rintro m h' l0 l1 l2 ⟨k, rfl, hk, rfl, rfl, rfl, H', f⟩
    unfold PX10_packedDoubleArea_4
    refine (rdP_iff H'.1).mpr ⟨_, rfl, (rdI_iff H'.st.obj.1).mpr ⟨_, rfl, fun c => ?_, fun c => ?_⟩⟩
    · have hkk : k = σ.2.1.length := by have := (i32_le (by omega) (by omega)).mp c; omega
      subst hkk
      exact Qy.mk rfl H' f
    · have hkk : k < σ.2.1.length := by have := mt (i32_le (i := σ.2.1.length) (j := k) (by omega) (by omega)).mpr c; omega
      exact (rdP_iff H'.1).mpr ⟨_, rfl, cvP H'.st.obj.1 (t8_shape H'.st hkk) ⟨_, by omega, k, 0, rfl, hkk, Nat.zero_le _, rfl, rfl, rfl, rfl, rfl, H', f⟩⟩
  · rintro m h' l0 l1 l2 l3 l4 ⟨k, i, rfl, hk, hi, rfl, rfl, rfl, rfl, rfl, H', f⟩
    obtain ⟨fs, g6, gf, g3⟩ := shl (H'.item hk).1
    have d := (H'.item hk).2.2
    unfold PX10_packedDoubleArea_27
    refine (rdI_iff g6).mpr ⟨_, gf, fun c => ?_, fun c => (rdP_iff H'.1).mpr ⟨_, rfl, ?_⟩⟩
    · have hii : i = (itM M σ k).length := by have := (i32_le (by omega) (by omega)).mp c; omega
      subst hii
      exact ⟨(σ.2.1.length - (k + 1)) * 100, by omega, k + 1, rfl, hk, rfl, by rw [fold_succ]; rfl, i32_s k, H', f⟩
    · have hii : i < (itM M σ k).length := by have := mt (i32_le (i := (itM M σ k).length) (j := i) (by omega) (by omega)).mpr c; omega
      obtain ⟨V, P⟩ := H'.poly'
      refine cvVq g6 (s6_copyPiece (H'.item hk).1 P (by omega) hii 0) fun h4 q4 => ?_
      have H4 := H'.poly ⟨_, q4.1⟩ q4.2
      rw [tr0] at q4
      obtain ⟨_, g5⟩ := q4.1.ad
      refine (rdP_iff H4.1).mpr ⟨_, rfl, cvI g5 (s5_area q4.1) fun v8 e8 => ?_⟩
      exact ⟨(σ.2.1.length - k) * 100 - 1 - (i + 1), by omega, k, i + 1, rfl, hk, hii, rfl, by rw [fold_succ, e8], rfl, rfl, i32_s i, H4, f.trans (q4.2.weak (by omega) (by omega))⟩
theorem sh_box {q : Nat} {S : SH} (G : ShAt h q S) (hne : S.flatten ≠ []) : ∃ fs, h[q]? = some (.inr (6, fs)) ∧ fs[5]? = some (aI (bxS S).1) ∧ fs[6]? = some (aI (bxS S).2.1) ∧ fs[7]? = some (aI (bxS S).2.2.1) ∧ fs[8]? = some (aI (bxS S).2.2.2) := by
  obtain ⟨l, b, r, t, st, xs, ys, g1, -, -, -, -, -, -, -, g9⟩ := G
  rw [List.append_nil] at g9
  have e9 := g9 hne
  obtain ⟨e1, e2, e3, e4⟩ : l = (bxS S).1 ∧ b = (bxS S).2.1 ∧ r = (bxS S).2.2.1 ∧ t = (bxS S).2.2.2 := ⟨congrArg (·.1) e9, congrArg (·.2.1) e9, congrArg (·.2.2.1) e9, congrArg (·.2.2.2) e9⟩
  exact ⟨_, g1, by rw [← e1]; rfl, by rw [← e2]; rfl, by rw [← e3]; rfl, by rw [← e4]; rfl⟩
theorem s10_side (H : Plb h cs σ vs M) {k : Nat} (hk : k < σ.2.1.length) (s : Int32) : sX10_itemSide E [aP (some 0), aI (Int32.ofNat k), aI s] h (kI fun r h' => r = isV M σ k s ∧ h' = h) := by
  refine eX10_itemSide ?_
  unfold PX10_itemSide_0
  have O := H.st.obj.1
  obtain ⟨fs, g6, f5, f6, f7, f8⟩ := sh_box (H.item hk).1 (flat_ne (H.item_ne hk) (H.item hk).2.1)
  refine (rdP_iff H.1).mpr ⟨_, rfl, cvP O (t8_shape H.st hk) ⟨fun c => (rdP_iff H.1).mpr ⟨_, rfl, cvI O (t8_y H.st hk) ((rdI_iff g6).mpr ⟨_, f8, _, rfl, ?_, rfl⟩)⟩, fun c => (rdP_iff H.1).mpr ⟨_, rfl, cvI O (t8_x H.st hk) ((rdI_iff g6).mpr ⟨_, f5, _, rfl, ?_, rfl⟩)⟩, fun c => (rdP_iff H.1).mpr ⟨_, rfl, cvI O (t8_y H.st hk) ((rdI_iff g6).mpr ⟨_, f6, _, rfl, ?_, rfl⟩)⟩, fun c => (rdP_iff H.1).mpr ⟨_, rfl, cvI O (t8_x H.st hk) ((rdI_iff g6).mpr ⟨_, f7, _, rfl, ?_, rfl⟩)⟩⟩⟩ <;> unfold isV
  · rw [if_neg (by omega), if_neg (by omega), if_neg (by omega)]; rfl
  · rw [if_pos c]; rfl
  · rw [if_neg (by omega), if_pos c]; rfl
  · rw [if_neg (by omega), if_neg (by omega), if_pos c]; rfl
theorem c10_box (H : Plb h cs σ vs M) (s : Int32) : sX10_boundingBox E [aP (some 0), aI s] h (Qy cs σ vs M h (cBB M σ s)) := by
  have h8 := H.n8
  have O := H.st.obj.1
  refine uX10_boundingBox (fun m h' l0 l1 l2 l3 => ∃ k, m = σ.2.1.length - k ∧ k < σ.2.1.length ∧ h' = h ∧ l0 = some 0 ∧ l1 = s ∧ l2 = (List.range k).foldl (bbStep M σ s) (isV M σ 0 s) ∧ l3 = Int32.ofNat (k + 1) ∧ (¬ s < 0 ∧ s ≤ 3)) ?_ ?_
  · unfold PX10_boundingBox_0
    refine ⟨fun c => Qy.mk (ifC_neg fun q => q.1 c) H Fr.refl, fun c => ⟨fun c2 => (rdP_iff H.1).mpr ⟨_, rfl, (rdI_iff O).mpr ⟨_, rfl, fun c3 => ?_, fun c3 => ?_⟩⟩, fun c2 => Qy.mk (ifC_neg fun q => c2 q.2) H Fr.refl⟩⟩
    · have hn : 0 < σ.2.1.length := Nat.pos_of_ne_zero fun z => c3 (by rw [z]; rfl)
      exact cvI H.1 (s10_side H hn s) ⟨_, 0, rfl, hn, rfl, rfl, rfl, rfl, rfl, c, c2⟩
    · have hn : σ.2.1.length = 0 := i32_inj (n := 0) (by omega) (by omega) c3
      exact Qy.mk ((ifC_pos ⟨c, c2⟩).trans (if_pos hn)) H Fr.refl
  · rintro m h' l0 l1 l2 l3 ⟨k, rfl, hk, rfl, rfl, rfl, rfl, rfl, hs⟩
    unfold PX10_boundingBox_34
    refine (rdP_iff H.1).mpr ⟨_, rfl, (rdI_iff O).mpr ⟨_, rfl, fun c => ?_, fun c => ?_⟩⟩
    · have hkk : k = σ.2.1.length - 1 := by have := (i32_le (by omega) (by omega)).mp c; omega
      subst hkk
      exact Qy.mk ((ifC_pos hs).trans (if_neg (by omega))) H Fr.refl
    · have hkk : k + 1 < σ.2.1.length := by have := mt (i32_le (i := σ.2.1.length) (j := k + 1) (by omega) (by omega)).mpr c; omega
      refine cvI H.1 (s10_side H hkk l1) ⟨fun c2 v6 e6 => ⟨σ.2.1.length - (k + 1), by omega, k + 1, rfl, hkk, rfl, rfl, rfl, ?_, i32_s _, hs⟩, fun c2 v6 e6 => ⟨σ.2.1.length - (k + 1), by omega, k + 1, rfl, hkk, rfl, rfl, rfl, ?_, i32_s _, hs⟩⟩
      · rw [fold_succ, e6]
        have : ∀ b, bbStep M σ l1 b k = (if b < isV M σ (k + 1) l1 then isV M σ (k + 1) l1 else b) := fun b => by unfold bbStep; exact if_pos c2
        rw [this]
      · rw [fold_succ, e6]
        have : ∀ b, bbStep M σ l1 b k = (if isV M σ (k + 1) l1 < b then isV M σ (k + 1) l1 else b) := fun b => by unfold bbStep; exact if_neg c2
        rw [this]
theorem tp_succ {i j : Nat} (h : i + 1 ≤ j) : tpGo M σ i (j + 1) = if relP (itM M σ i) (itM M σ j) (iX σ j - iX σ i) (iY σ j - iY σ i) = 1 then tpGo M σ i j + 1 else tpGo M σ i j := by
  unfold tpGo; rw [pr2_succ h, List.foldl_append]; rfl
theorem c10_touch (H : Plb h cs σ vs M) : sX10_touchingPairs E [aP (some 0)] h (Qy cs σ vs M h (cTouch M σ)) := by
  have h8 := H.n8
  refine uX10_touchingPairs (fun m h' l0 l1 l2 => ∃ i, m = (σ.2.1.length - i) * 100 ∧ i ≤ σ.2.1.length ∧ l0 = some 0 ∧ l1 = tpGo M σ i (i + 1) ∧ l2 = Int32.ofNat i ∧ Plb h' cs σ vs M ∧ Fr 0 313 h h')
    (fun m h' l0 l1 l2 l3 => ∃ i j, m = (σ.2.1.length - i) * 100 - 1 - j ∧ i < σ.2.1.length ∧ i + 1 ≤ j ∧ j ≤ σ.2.1.length ∧ l0 = some 0 ∧ l1 = tpGo M σ i j ∧ l2 = Int32.ofNat i ∧ l3 = Int32.ofNat j ∧ Plb h' cs σ vs M ∧ Fr 0 313 h h') ?_ ?_ ?_
  · have e0 : tpGo M σ 0 (0 + 1) = 0 := by unfold tpGo; rw [pr2_zero]; rfl
    exact ⟨_, 0, rfl, Nat.zero_le _, rfl, e0.symm, rfl, H, Fr.refl⟩
  · rintro m h' l0 l1 l2 ⟨i, rfl, hi, rfl, rfl, rfl, H', f⟩
    unfold PX10_touchingPairs_4
    refine (rdP_iff H'.1).mpr ⟨_, rfl, (rdI_iff H'.st.obj.1).mpr ⟨_, rfl, fun c => ?_, fun c v3 e3 => ?_⟩⟩
    · have hii : i = σ.2.1.length := by have := (i32_le (by omega) (by omega)).mp c; omega
      subst hii
      exact Qy.mk rfl H' f
    · have hii : i < σ.2.1.length := by have := mt (i32_le (i := σ.2.1.length) (j := i) (by omega) (by omega)).mpr c; omega
      exact ⟨_, by omega, i, i + 1, rfl, hii, Nat.le_refl _, hii, rfl, rfl, rfl, by rw [e3, i32_s], H', f⟩
  · rintro m h' l0 l1 l2 l3 ⟨i, j, rfl, hi, hij, hj, rfl, rfl, rfl, rfl, H', f⟩
    unfold PX10_touchingPairs_19
    have O := H'.st.obj.1
    refine (rdP_iff H'.1).mpr ⟨_, rfl, (rdI_iff O).mpr ⟨_, rfl, fun c => ?_, fun c => ?_⟩⟩
    · have hjj : j = σ.2.1.length := by have := (i32_le (by omega) (by omega)).mp c; omega
      subst hjj
      have e1 : tpGo M σ i σ.2.1.length = tpGo M σ (i + 1) (i + 1 + 1) := by unfold tpGo; rw [pr2_row]
      exact ⟨(σ.2.1.length - (i + 1)) * 100, by omega, i + 1, rfl, hi, rfl, e1, i32_s i, H', f⟩
    · have hjj : j < σ.2.1.length := by have := mt (i32_le (i := σ.2.1.length) (j := j) (by omega) (by omega)).mpr c; omega
      have d1 := (H'.item hi).2.2
      have d2 := (H'.item hjj).2.2
      obtain ⟨C, F, P⟩ := H'.pr
      refine (rdP_iff H'.1).mpr ⟨_, rfl, cvI O (t8_x H'.st hjj) ((rdP_iff H'.1).mpr ⟨_, rfl, cvI O (t8_x H'.st hi) fun v9 e9 => (rdP_iff H'.1).mpr ⟨_, rfl, cvI O (t8_y H'.st hjj) ((rdP_iff H'.1).mpr ⟨_, rfl, cvI O (t8_y H'.st hi) fun v16 e16 => (rdP_iff H'.1).mpr ⟨_, rfl, (rdP_iff H'.1).mpr ⟨_, rfl, cvP O (t8_shape H'.st hi) ((rdP_iff H'.1).mpr ⟨_, rfl, cvP O (t8_shape H'.st hjj) (cvIq P.1 (s3_relation ⟨C, F, P⟩ (H'.item hi).1 (H'.item hjj).1 (H'.item hi).2.1 (H'.item hjj).2.1 (by omega) (by omega) v9 v16) fun r h8 q8 => ?_)⟩)⟩⟩⟩)⟩⟩)⟩
      have H8 := H'.pair q8.2.1 q8.2.2
      have ff := f.trans (q8.2.2.weak (Nat.zero_le _) (by omega))
      have e8 : r = relP (itM M σ i) (itM M σ j) (iX σ j - iX σ i) (iY σ j - iY σ i) := by rw [q8.1, e9, e16]; rfl
      have es := tp_succ (M := M) (σ := σ) hij
      rw [← e8] at es
      refine ⟨fun c8 => ⟨(σ.2.1.length - i) * 100 - 1 - (j + 1), by omega, i, j + 1, rfl, hi, by omega, hjj, rfl, ?_, rfl, i32_s j, H8, ff⟩, fun c8 => ⟨(σ.2.1.length - i) * 100 - 1 - (j + 1), by omega, i, j + 1, rfl, hi, by omega, hjj, rfl, ?_, rfl, i32_s j, H8, ff⟩⟩
      · rw [es, if_neg c8]
      · rw [es, if_pos c8]
theorem Plb.prep (H : Plb h cs σ vs M) {q : Nat} {S : SH} (G : ShAt h q S) (hS : Pok S) (hne : S.flatten ≠ []) (dq : q + 4 ≤ 30 ∨ 262 ≤ q) (ex : Int32) : sX4_prepare E [aP (some 30), aP (some 262), aP (some q), aI ex] h (kV fun h' => PlO h' 30 (obsP M σ.2.1 S σ.2.2.2.2 ex) (bxP S σ.2.2.1 σ.2.2.2.1) ∧ Fr 30 262 h h') :=
  s4_prepare H.2.2.2.2.1 H.st G hS hne M (fun k hk => ⟨(H.item hk).1, (H.item hk).2.1, by have := (H.item hk).2.2; omega⟩) (by omega) (by omega) ex
theorem Plb.obOne (H : Plb h cs σ vs M) {S : SH} {cl ex : Int32} : One (obsP M σ.2.1 S cl ex) := obs_one fun k hk => (H.item hk).2.1
theorem c10_free (H : Plb h cs σ vs M) (x : Int32) (hb : Slt x → slM M σ (nx x) ≠ [] → SmB (bxP (slM M σ (nx x)) σ.2.2.1 σ.2.2.2.1)) : sX10_freePlaces E [aP (some 0), aI x] h (Qy cs σ vs M h (cFree M σ x)) := by
  refine eX10_freePlaces ?_
  unfold PX10_freePlaces_0
  refine csI (s10_isSlot x) ⟨fun c => cvI H.1 (u10_empty H (ifC1 rfl c)) ⟨fun c2 => ?_, fun c2 => Qy.mk ((ifC_pos (ifC1 rfl c)).trans (ifC_pos (r01 rfl c2))) H Fr.refl⟩, fun c => Qy.mk (ifC_neg (ifC0 rfl c)) H Fr.refl⟩
  have hs := ifC1 rfl c
  have hne := r00 rfl c2
  have d := (H.sl hs).2.2
  have hp4 : ∃ fs, h[30]? = some (.inr (4, fs)) := by
    obtain ⟨Os, bx, fx, fy, p⟩ := H.2.2.2.2.1
    exact ⟨_, p.1⟩
  obtain ⟨_, g4⟩ := hp4
  refine (rdP_iff H.1).mpr ⟨_, rfl, (rdP_iff H.1).mpr ⟨_, rfl, (rdP_iff H.1).mpr ⟨_, rfl, cvP H.st.obj.1 (u8_slot H hs) (cvVq g4 (H.prep (H.sl hs).1 (H.sl hs).2.1 (flat_ne hne (H.sl hs).2.1) (by omega) (-1)) fun h8 q8 => ?_)⟩⟩⟩
  have H8 := H.places ⟨_, _, q8.1⟩ q8.2
  obtain ⟨fx, fy, X⟩ := q8.1
  exact (rdP_iff H8.1).mpr ⟨_, rfl, cvI X.1 (s4_count X H.obOne (hb hs hne)) (Qy.mk ((ifC_pos hs).trans (ifC_neg hne)) H8 (q8.2.weak (by omega) (by omega)))⟩
end I2
