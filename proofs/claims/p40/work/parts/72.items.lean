/-! the planner's questions about items -/
def iX (σ : SV) (k : Nat) : Int32 := (itA σ.2.1 k).2.1
def iY (σ : SV) (k : Nat) : Int32 := (itA σ.2.1 k).2.2
/-- pairs i < j in their order -/
def pr2 (n i j : Nat) : List (Nat × Nat) := (List.range i).flatMap (fun a => (List.range' (a + 1) (n - (a + 1))).map fun b => (a, b)) ++ (List.range' (i + 1) (j - (i + 1))).map fun b => (i, b)
theorem pr2_succ {n i j : Nat} (h : i + 1 ≤ j) : pr2 n i (j + 1) = pr2 n i j ++ [(i, j)] := by
  unfold pr2
  rw [show j + 1 - (i + 1) = (j - (i + 1)) + 1 by omega, List.range'_concat, List.map_append, List.append_assoc]
  simp only [List.map_cons, List.map_nil]
  rw [show i + 1 + 1 * (j - (i + 1)) = j by omega]
theorem pr2_row {n i : Nat} : pr2 n i n = pr2 n (i + 1) (i + 2) := by
  unfold pr2
  rw [List.range_succ, List.flatMap_append, show i + 2 - (i + 1 + 1) = 0 by omega]
  simp
theorem pr2_zero {n : Nat} : pr2 n 0 1 = [] := by unfold pr2; simp
def igP (M : Nat → SH) (σ : SV) (i j : Nat) : FQ := gapP (itM M σ i) (itM M σ j) (iX σ j - iX σ i) (iY σ j - iY σ i)
section IT
variable {E : EV} {h : AH} {cs : List Int32} {σ : SV} {vs : List SV} {M : Nat → SH}
theorem Plb.n8 (H : Plb h cs σ vs M) : σ.2.1.length ≤ 8 := H.st.obj.2
theorem itm_of {k : Nat} (h8 : σ.2.1.length ≤ 8) (hk : k < σ.2.1.length) : Itm σ (Int32.ofNat k) := ⟨i32_nn (by omega), fun q => by have := (i32_le (by omega) (by omega)).mp q; omega⟩
theorem nx_of {k : Nat} (h : k < 2147483648) : nx (Int32.ofNat k) = k := i32_n h
theorem c10_itemCount (H : Plb h cs σ vs M) : sX10_itemCount E [aP (some 0)] h (Qy cs σ vs M h (Int32.ofNat σ.2.1.length)) := by
  refine eX10_itemCount ?_
  unfold PX10_itemCount_0
  exact (rdP_iff H.1).mpr ⟨_, rfl, (rdI_iff H.st.obj.1).mpr ⟨_, rfl, Qy.mk rfl H Fr.refl⟩⟩
noncomputable def cItemPlace (σ : SV) (i c : Int32) : Int32 := ifC (Itm σ i ∧ Prt c) (if c = 0 then iX σ (nx i) else iY σ (nx i)) (-1000001)
theorem u8_x (H : Plb h cs σ vs M) {i : Int32} (hi : Itm σ i) : sX8_x E [aP (some 262), aI i] h (kI fun r h' => r = iX σ (nx i) ∧ h' = h) := by
  have hn := hi.nat H.n8
  have := t8_x (E := E) H.st hn.2
  rw [← hn.1] at this; exact this
theorem u8_y (H : Plb h cs σ vs M) {i : Int32} (hi : Itm σ i) : sX8_y E [aP (some 262), aI i] h (kI fun r h' => r = iY σ (nx i) ∧ h' = h) := by
  have hn := hi.nat H.n8
  have := t8_y (E := E) H.st hn.2
  rw [← hn.1] at this; exact this
theorem u8_shape (H : Plb h cs σ vs M) {i : Int32} (hi : Itm σ i) : sX8_shape E [aP (some 262), aI i] h (kP fun r h' => r = some (itA σ.2.1 (nx i)).1 ∧ h' = h) := by
  have hn := hi.nat H.n8
  have := t8_shape (E := E) H.st hn.2
  rw [← hn.1] at this; exact this
theorem Plb.it (H : Plb h cs σ vs M) {i : Int32} (hi : Itm σ i) : ShAt h (itA σ.2.1 (nx i)).1 (itM M σ (nx i)) ∧ Pok (itM M σ (nx i)) ∧ ((itA σ.2.1 (nx i)).1 = 1 ∨ 313 ≤ (itA σ.2.1 (nx i)).1) := H.item (hi.nat H.n8).2
theorem c10_itemPlace (H : Plb h cs σ vs M) (i c : Int32) : sX10_itemPlace E [aP (some 0), aI i, aI c] h (Qy cs σ vs M h (cItemPlace σ i c)) := by
  refine eX10_itemPlace ?_
  unfold PX10_itemPlace_0
  refine cvI H.1 (s10_isItem H i) ⟨fun c1 => Qy.mk (ifC_neg fun q => ifC0 rfl c1 q.1) H Fr.refl, fun c1 => csI (s10_isPart c) ⟨fun c2 => ?_, fun c2 => Qy.mk (ifC_neg fun q => ifC0 rfl c2 q.2) H Fr.refl⟩⟩
  have h1 : Itm σ i ∧ Prt c := ⟨ifC1 rfl c1, ifC1 rfl c2⟩
  exact ⟨fun c3 => (rdP_iff H.1).mpr ⟨_, rfl, cvI H.st.obj.1 (u8_y H h1.1) (Qy.mk ((ifC_pos h1).trans (if_neg c3)) H Fr.refl)⟩, fun c3 => (rdP_iff H.1).mpr ⟨_, rfl, cvI H.st.obj.1 (u8_x H h1.1) (Qy.mk ((ifC_pos h1).trans (if_pos c3)) H Fr.refl)⟩⟩
theorem s10_measure (H : Plb h cs σ vs M) {i j : Int32} (hi : Itm σ i) (hj : Itm σ j) : sX10_measureItemGap E [aP (some 0), aI i, aI j] h (kV fun h' => (∃ C, PairO h' 19 C (igP M σ (nx i) (nx j))) ∧ Plb h' cs σ vs M ∧ Fr 19 30 h h') := by
  refine eX10_measureItemGap ?_
  unfold PX10_measureItemGap_0
  have d1 := (H.it hi).2.2
  have d2 := (H.it hj).2.2
  have O := H.st.obj.1
  obtain ⟨C, F, P⟩ := H.pr
  refine (rdP_iff H.1).mpr ⟨_, rfl, cvI O (u8_x H hj) ((rdP_iff H.1).mpr ⟨_, rfl, cvI O (u8_x H hi) fun v7 e7 => (rdP_iff H.1).mpr ⟨_, rfl, cvI O (u8_y H hj) ((rdP_iff H.1).mpr ⟨_, rfl, cvI O (u8_y H hi) fun v14 e14 => (rdP_iff H.1).mpr ⟨_, rfl, (rdP_iff H.1).mpr ⟨_, rfl, cvP O (u8_shape H hi) ((rdP_iff H.1).mpr ⟨_, rfl, cvP O (u8_shape H hj) (cvVq P.1 (s3_gap ⟨C, F, P⟩ (H.it hi).1 (H.it hj).1 (H.it hi).2.1 (H.it hj).2.1 (by omega) (by omega) v7 v14) fun h8 q8 => ?_)⟩)⟩⟩⟩)⟩⟩)⟩
  obtain ⟨⟨C8, P8⟩, f8⟩ := q8
  refine ⟨rfl, ⟨C8, ?_⟩, H.pair ⟨_, _, P8⟩ f8, f8⟩
  unfold igP; rw [← e7, ← e14]; exact P8
noncomputable def cItemGap (M : Nat → SH) (σ : SV) (i j p : Int32) : Int32 := ifC (Itm σ i ∧ Itm σ j ∧ ¬ i = j ∧ Prt p) (partF (igP M σ (nx i) (nx j)) p) (-1000001)
theorem c10_itemGap (H : Plb h cs σ vs M) (i j p : Int32) : sX10_itemGap E [aP (some 0), aI i, aI j, aI p] h (Qy cs σ vs M h (cItemGap M σ i j p)) := by
  refine eX10_itemGap ?_
  unfold PX10_itemGap_0
  refine cvI H.1 (s10_isItem H i) ⟨fun c1 => Qy.mk (ifC_neg fun q => ifC0 rfl c1 q.1) H Fr.refl, fun c1 => cvI H.1 (s10_isItem H j) ⟨fun c2 => Qy.mk (ifC_neg fun q => ifC0 rfl c2 q.2.1) H Fr.refl, fun c2 => ⟨fun c3 => Qy.mk (ifC_neg fun q => q.2.2.1 c3) H Fr.refl, fun c3 => csI (s10_isPart p) ⟨fun c4 => ?_, fun c4 => Qy.mk (ifC_neg fun q => ifC0 rfl c4 q.2.2.2) H Fr.refl⟩⟩⟩⟩
  have h1 : Itm σ i ∧ Itm σ j ∧ ¬ i = j ∧ Prt p := ⟨ifC1 rfl c1, ifC1 rfl c2, c3, ifC1 rfl c4⟩
  refine cvVq H.1 (s10_measure H h1.1 h1.2.1) fun h8 q8 => ?_
  obtain ⟨⟨C8, P8⟩, H8, f8⟩ := q8
  exact (rdP_iff H8.1).mpr ⟨_, rfl, (rdP_iff P8.1).mpr ⟨_, rfl, cvI P8.2.2.2 (s0_part P8.2.2.2 p) (Qy.mk (ifC_pos h1) H8 (f8.weak (by omega) (by omega)))⟩⟩
def cpStep (M : Nat → SH) (σ : SV) (s : Int32 × FQ) (ij : Nat × Nat) : Int32 × FQ := if (igP M σ ij.1 ij.2).1 * s.2.2 < s.2.1 * (igP M σ ij.1 ij.2).2 then (10 * Int32.ofNat ij.1 + Int32.ofNat ij.2, igP M σ ij.1 ij.2) else s
def cpGo (M : Nat → SH) (σ : SV) (i j : Nat) : Int32 × FQ := (pr2 σ.2.1.length i j).foldl (cpStep M σ) (-1000009, (1, 0))
def cClosest (M : Nat → SH) (σ : SV) : Int32 := (cpGo M σ σ.2.1.length (σ.2.1.length + 1)).1
theorem cp_succ {i j : Nat} (h : i + 1 ≤ j) : cpGo M σ i (j + 1) = cpStep M σ (cpGo M σ i j) (i, j) := by
  unfold cpGo; rw [pr2_succ h, List.foldl_append]; rfl
theorem c10_closest (H : Plb h cs σ vs M) : sX10_closestPair E [aP (some 0)] h (Qy cs σ vs M h (cClosest M σ)) := by
  have h8 := H.n8
  refine uX10_closestPair (fun m h' l0 l1 l2 => ∃ i, m = (σ.2.1.length - i) * 100 ∧ i ≤ σ.2.1.length ∧ l0 = some 0 ∧ l1 = (cpGo M σ i (i + 1)).1 ∧ l2 = Int32.ofNat i ∧ FrAt h' 311 (cpGo M σ i (i + 1)).2 ∧ Plb h' cs σ vs M ∧ Fr 0 313 h h')
    (fun m h' l0 l1 l2 l3 => ∃ i j, m = (σ.2.1.length - i) * 100 - 1 - j ∧ i < σ.2.1.length ∧ i + 1 ≤ j ∧ j ≤ σ.2.1.length ∧ l0 = some 0 ∧ l1 = (cpGo M σ i j).1 ∧ l2 = Int32.ofNat i ∧ l3 = Int32.ofNat j ∧ FrAt h' 311 (cpGo M σ i j).2 ∧ Plb h' cs σ vs M ∧ Fr 0 313 h h') ?_ ?_ ?_
  · unfold PX10_closestPair_0
    obtain ⟨F, P⟩ := H.2.2.2.2.2.2.2.2.2.2.1
    refine (rdP_iff H.1).mpr ⟨_, rfl, cvVq P (s0_setInfinite P) fun h1 q1 => ?_⟩
    have e0 : cpGo M σ 0 (0 + 1) = (-1000009, (1, 0)) := by unfold cpGo; rw [pr2_zero]; rfl
    exact ⟨_, 0, rfl, Nat.zero_le _, rfl, by rw [e0], rfl, by rw [e0]; exact q1.1, H.small ⟨_, q1.1⟩ q1.2, q1.2.weak (by omega) (by omega)⟩
  · rintro m h' l0 l1 l2 ⟨i, rfl, hi, rfl, rfl, rfl, F, H', f⟩
    unfold PX10_closestPair_12
    refine (rdP_iff H'.1).mpr ⟨_, rfl, (rdI_iff H'.st.obj.1).mpr ⟨_, rfl, fun c => ?_, fun c v3 e3 => ?_⟩⟩
    · have hii : i = σ.2.1.length := by have := (i32_le (by omega) (by omega)).mp c; omega
      subst hii
      exact Qy.mk rfl H' f
    · have hii : i < σ.2.1.length := by have := mt (i32_le (i := σ.2.1.length) (j := i) (by omega) (by omega)).mpr c; omega
      exact ⟨_, by omega, i, i + 1, rfl, hii, Nat.le_refl _, hii, rfl, rfl, rfl, by rw [e3, i32_s], F, H', f⟩
  · rintro m h' l0 l1 l2 l3 ⟨i, j, rfl, hi, hij, hj, rfl, rfl, rfl, rfl, F, H', f⟩
    unfold PX10_closestPair_27
    refine (rdP_iff H'.1).mpr ⟨_, rfl, (rdI_iff H'.st.obj.1).mpr ⟨_, rfl, fun c => ?_, fun c => ?_⟩⟩
    · have hjj : j = σ.2.1.length := by have := (i32_le (by omega) (by omega)).mp c; omega
      subst hjj
      have e1 : cpGo M σ i σ.2.1.length = cpGo M σ (i + 1) (i + 1 + 1) := by unfold cpGo; rw [pr2_row]
      exact ⟨(σ.2.1.length - (i + 1)) * 100, by omega, i + 1, rfl, hi, rfl, by rw [e1], i32_s i, by rw [← e1]; exact F, H', f⟩
    · have hjj : j < σ.2.1.length := by have := mt (i32_le (i := σ.2.1.length) (j := j) (by omega) (by omega)).mpr c; omega
      have hI := itm_of h8 hi
      have hJ := itm_of h8 hjj
      refine cvVq H'.1 (s10_measure H' hI hJ) fun h4 q4 => ?_
      obtain ⟨⟨C8, P8⟩, H8, f8⟩ := q4
      rw [nx_of (by omega), nx_of (by omega)] at P8
      have F8 := F.fr f8 (by omega)
      refine (rdP_iff H8.1).mpr ⟨_, rfl, (rdP_iff H8.1).mpr ⟨_, rfl, (rdP_iff P8.1).mpr ⟨_, rfl, (rdJ_iff P8.2.2.2).mpr ⟨_, rfl, (rdP_iff H8.1).mpr ⟨_, rfl, (rdP_iff P8.1).mpr ⟨_, rfl, (rdJ_iff P8.2.2.2).mpr ⟨_, rfl, cvIq F8 (s0_lowerTo F8 _ _) fun r h9 q9 => ?_⟩⟩⟩⟩⟩⟩⟩
      obtain ⟨e9, F9, f9⟩ := q9
      have H9 := H8.small ⟨_, F9⟩ f9
      have ff : Fr 0 313 h h9 := (f.trans (f8.weak (by omega) (by omega))).trans (f9.weak (by omega) (by omega))
      have es := cp_succ (M := M) (σ := σ) hij
      refine ⟨fun c9 => ?_, fun c9 v14 e14 => ?_⟩
      · have e : cpGo M σ i (j + 1) = cpGo M σ i j := by rw [es]; unfold cpStep; rw [if_neg (r00 e9 c9)]
        unfold lowF at F9
        rw [if_neg (r00 e9 c9)] at F9
        exact ⟨(σ.2.1.length - i) * 100 - 1 - (j + 1), by omega, i, j + 1, rfl, hi, by omega, hjj, rfl, by rw [e], rfl, i32_s j, by rw [e]; exact F9, H9, ff⟩
      · have e : cpGo M σ i (j + 1) = (10 * Int32.ofNat i + Int32.ofNat j, igP M σ i j) := by rw [es]; unfold cpStep; rw [if_pos (r01 e9 c9)]
        unfold lowF at F9
        rw [if_pos (r01 e9 c9)] at F9
        exact ⟨(σ.2.1.length - i) * 100 - 1 - (j + 1), by omega, i, j + 1, rfl, hi, by omega, hjj, rfl, by rw [e, e14], rfl, i32_s j, by rw [e]; exact F9, H9, ff⟩
/-! points -/
/-! what is in the way -/
def boStep (M : Nat → SH) (σ : SV) (i : Nat) (dx dy : Int32) (acc : Int32) (k : Nat) : Int32 := if k = i then acc else if stbP (itM M σ k) (itM M σ i) (iX σ i - iX σ k) (iY σ i - iY σ k) dx dy = true then acc ||| ((1 : Int32) <<< (Int32.ofNat k &&& 31)) else acc
def boP (M : Nat → SH) (σ : SV) (i : Nat) (d : Int32) : Int32 := (List.range σ.2.1.length).foldl (boStep M σ i (dirxF (nx d)) (diryF (nx d))) 0
theorem s10_blockers (H : Plb h cs σ vs M) {i : Nat} (hi : i < σ.2.1.length) {d : Int32} (hd : Dirn d) : sX10_blockersOf E [aP (some 0), aI (Int32.ofNat i), aI d] h (kI fun r h' => r = boP M σ i d ∧ Plb h' cs σ vs M ∧ Fr 19 30 h h') := by
  have h8 := H.n8
  refine uX10_blockersOf (fun m h' l0 l1 l3 l4 l5 l6 => ∃ k, m = σ.2.1.length - k ∧ k ≤ σ.2.1.length ∧ l0 = some 0 ∧ l1 = Int32.ofNat i ∧ l3 = dirxF (nx d) ∧ l4 = diryF (nx d) ∧ l5 = (List.range k).foldl (boStep M σ i (dirxF (nx d)) (diryF (nx d))) 0 ∧ l6 = Int32.ofNat k ∧ Plb h' cs σ vs M ∧ Fr 19 30 h h') ?_ ?_
  · unfold PX10_blockersOf_0
    exact csI (s10_dirX hd) (csI (s10_dirY hd) ⟨_, 0, rfl, Nat.zero_le _, rfl, rfl, rfl, rfl, rfl, rfl, H, Fr.refl⟩)
  · rintro m h' l0 l1 l3 l4 l5 l6 ⟨k, rfl, hk, rfl, rfl, rfl, rfl, rfl, rfl, H', f⟩
    unfold PX10_blockersOf_17
    have O := H'.st.obj.1
    refine (rdP_iff H'.1).mpr ⟨_, rfl, (rdI_iff O).mpr ⟨_, rfl, fun c => ?_, fun c => ?_⟩⟩
    · have hkk : k = σ.2.1.length := by have := (i32_le (by omega) (by omega)).mp c; omega
      subst hkk
      exact ⟨_, rfl, rfl, H', f⟩
    · have hkk : k < σ.2.1.length := by have := mt (i32_le (i := σ.2.1.length) (j := k) (by omega) (by omega)).mpr c; omega
      refine (rdP_iff H'.1).mpr ⟨_, rfl, cvI O (t8_x H'.st hi) ((rdP_iff H'.1).mpr ⟨_, rfl, cvI O (t8_x H'.st hkk) fun v9 e9 => (rdP_iff H'.1).mpr ⟨_, rfl, cvI O (t8_y H'.st hi) ((rdP_iff H'.1).mpr ⟨_, rfl, cvI O (t8_y H'.st hkk) fun v16 e16 => ⟨fun c2 => ?_, fun c2 => (rdP_iff H'.1).mpr ⟨_, rfl, (rdP_iff H'.1).mpr ⟨_, rfl, cvP O (t8_shape H'.st hkk) ((rdP_iff H'.1).mpr ⟨_, rfl, cvP O (t8_shape H'.st hi) ?_⟩)⟩⟩⟩⟩)⟩⟩)⟩
      · have hki : k = i := i32_inj (by omega) (by omega) c2
        refine ⟨σ.2.1.length - (k + 1), by omega, k + 1, rfl, hkk, rfl, rfl, rfl, rfl, ?_, i32_s k, H', f⟩
        rw [fold_succ]; unfold boStep; rw [if_pos hki]
      · have hki : ¬ k = i := fun z => c2 (by rw [z])
        have d1 := (H'.item hkk).2.2
        have d2 := (H'.item hi).2.2
        obtain ⟨C, F, P⟩ := H'.pr
        refine cvIq P.1 (s3_stopped ⟨C, F, P⟩ (H'.item hkk).1 (H'.item hi).1 (H'.item hkk).2.1 (H'.item hi).2.1 (by omega) (by omega) v9 v16 _ _) fun r h9 q9 => ?_
        obtain ⟨e9', ⟨C9, P9⟩, f9⟩ := q9
        have H9 := H'.pair ⟨_, _, P9⟩ f9
        rw [e9, e16] at e9'
        refine ⟨fun c9 => ⟨σ.2.1.length - (k + 1), by omega, k + 1, rfl, hkk, rfl, rfl, rfl, rfl, ?_, i32_s k, H9, f.trans f9⟩, fun c9 v26 e26 => ⟨σ.2.1.length - (k + 1), by omega, k + 1, rfl, hkk, rfl, rfl, rfl, rfl, ?_, i32_s k, H9, f.trans f9⟩⟩
        · have cc : ¬ stbP (itM M σ k) (itM M σ i) (iX σ i - iX σ k) (iY σ i - iY σ k) (dirxF (nx d)) (diryF (nx d)) = true := r00 e9' c9
          have : boStep M σ i (dirxF (nx d)) (diryF (nx d)) ((List.range k).foldl (boStep M σ i (dirxF (nx d)) (diryF (nx d))) 0) k = (List.range k).foldl (boStep M σ i (dirxF (nx d)) (diryF (nx d))) 0 := by unfold boStep; rw [if_neg hki, if_neg cc]
          rw [fold_succ, this]
        · have cc : stbP (itM M σ k) (itM M σ i) (iX σ i - iX σ k) (iY σ i - iY σ k) (dirxF (nx d)) (diryF (nx d)) = true := r01 e9' c9
          have : ∀ acc, boStep M σ i (dirxF (nx d)) (diryF (nx d)) acc k = acc ||| ((1 : Int32) <<< (Int32.ofNat k &&& 31)) := fun acc => by unfold boStep; rw [if_neg hki, if_pos cc]
          rw [fold_succ, this, e26]
noncomputable def cEscapes (M : Nat → SH) (σ : SV) (i d : Int32) : Int32 := ifC (Itm σ i ∧ Dirn d) (if boP M σ (nx i) d = 0 then 1 else 0) (-1000001)
theorem c10_escapes (H : Plb h cs σ vs M) (i d : Int32) : sX10_escapes E [aP (some 0), aI i, aI d] h (Qy cs σ vs M h (cEscapes M σ i d)) := by
  refine eX10_escapes ?_
  unfold PX10_escapes_0
  refine cvI H.1 (s10_isItem H i) ⟨fun c1 => Qy.mk (ifC_neg fun q => ifC0 rfl c1 q.1) H Fr.refl, fun c1 => csI (s10_isDirection d) ⟨fun c2 => ?_, fun c2 => Qy.mk (ifC_neg fun q => ifC0 rfl c2 q.2) H Fr.refl⟩⟩
  have h1 : Itm σ i ∧ Dirn d := ⟨ifC1 rfl c1, ifC1 rfl c2⟩
  have hn := h1.1.nat H.n8
  have sp := s10_blockers (E := E) H hn.2 h1.2
  rw [← hn.1] at sp
  refine cvIq H.1 sp fun r h5 q5 => ?_
  obtain ⟨e5, H5, f5⟩ := q5
  exact ⟨fun c5 => Qy.mk ((ifC_pos h1).trans (if_neg (by rw [← e5]; exact c5))) H5 (f5.weak (by omega) (by omega)), fun c5 => Qy.mk ((ifC_pos h1).trans (if_pos (by rw [← e5]; exact c5))) H5 (f5.weak (by omega) (by omega))⟩
end IT
