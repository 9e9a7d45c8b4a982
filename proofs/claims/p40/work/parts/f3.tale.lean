/-! the law's picture of the planner; tale, types -/
def LW (h : AH) (cs : List Int32) (ρ : RV) (ps : List RV) : Prop := 313 ≤ h.length ∧ ∃ σ vs M, Plb h cs σ vs M ∧ Ful M σ vs ρ ps ∧ NH ρ ∧ NHs ps
section LQ
variable {E : EV} {h : AH} {cs : List Int32} {ρ : RV} {ps : List RV} {K : Int32 → AH → Prop}
theorem LW.q {S : List AV → AH → (Option AV → AH → Prop) → Prop} {As : List AV} {v : Int32} (W : LW h cs ρ ps) (A : ∀ σ vs M, Plb h cs σ vs M → Ful M σ vs ρ ps → S (aP (some 0) :: As) h (Qy cs σ vs M h v)) (k : ∀ h', LW h' cs ρ ps → K v h') : CV S (some 0) 10 As h (kI K) := by
  obtain ⟨L, σ, vs, M, H, F, N⟩ := W
  exact ⟨0, _, _, rfl, H.1, A σ vs M H F, kI.mono fun r h' q => by
    obtain ⟨rfl, H', f⟩ := q
    exact k h' ⟨by rw [f.1]; exact L, σ, vs, M, H', F, N⟩⟩
theorem lq_count (W : LW h cs ρ ps) (k : ∀ h', LW h' cs ρ ps → K (Int32.ofNat ρ.2.1.length) h') : CV (sX10_itemCount E) (some 0) 10 [] h (kI K) := W.q (fun σ vs M H F => by rw [← F.1.n.1]; exact c10_itemCount H) k
theorem lq_packed (W : LW h cs ρ ps) (k : ∀ h', LW h' cs ρ ps → K (rPacked ρ ρ.2.1.length) h') : CV (sX10_packedDoubleArea E) (some 0) 10 [] h (kI K) := W.q (fun σ vs M H F => by rw [← q_packed F.1]; exact c10_packed H) k
theorem lq_pieces (W : LW h cs ρ ps) (x : Int32) (k : ∀ h', LW h' cs ρ ps → K (rPieceCount ρ x) h') : CV (sX10_pieceCount E) (some 0) 10 [aI x] h (kI K) := W.q (fun σ vs M H F => by rw [← q_pieceCount F.1]; exact c10_pieceCount H x) k
theorem lq_extent (W : LW h cs ρ ps) (x d : Int32) (k : ∀ h', LW h' cs ρ ps → K (rExtent ρ x d) h') : CV (sX10_extent E) (some 0) 10 [aI x, aI d] h (kI K) := W.q (fun σ vs M H F => by rw [← q_extent F.1]; exact c10_extent H x d) k
theorem lq_area (W : LW h cs ρ ps) (x i : Int32) (k : ∀ h', LW h' cs ρ ps → K (rDoubleArea ρ x i) h') : CV (sX10_doubleArea E) (some 0) 10 [aI x, aI i] h (kI K) := W.q (fun σ vs M H F => by rw [← q_doubleArea F.1]; exact c10_doubleArea H x i) k
theorem lq_place (W : LW h cs ρ ps) (i c : Int32) (k : ∀ h', LW h' cs ρ ps → K (rItemPlace ρ i c) h') : CV (sX10_itemPlace E) (some 0) 10 [aI i, aI c] h (kI K) := W.q (fun σ vs M H F => by rw [← q_itemPlace F.1]; exact c10_itemPlace H i c) k
theorem lq_box (W : LW h cs ρ ps) (s : Int32) (k : ∀ h', LW h' cs ρ ps → K (rBB ρ s) h') : CV (sX10_boundingBox E) (some 0) 10 [aI s] h (kI K) := W.q (fun σ vs M H F => by rw [← q_box F.1]; exact c10_box H s) k
theorem lq_closest (W : LW h cs ρ ps) (k : ∀ h', LW h' cs ρ ps → K (rClosest ρ) h') : CV (sX10_closestPair E) (some 0) 10 [] h (kI K) := W.q (fun σ vs M H F => by rw [← q_closest F.1]; exact c10_closest H) k
theorem lq_free (W : LW h cs ρ ps) (x : Int32) (k : ∀ h', LW h' cs ρ ps → K (rFree ρ x) h') : CV (sX10_freePlaces E) (some 0) 10 [aI x] h (kI K) := W.q (fun σ vs M H F => by rw [← q_free F.1]; exact c10_free H x fun s n => (sm_both F.1 (F.1.sl s).1 n).1) k
theorem lq_gap (W : LW h cs ρ ps) (i j p : Int32) (k : ∀ h', LW h' cs ρ ps → K (rItemGap ρ i j p) h') : CV (sX10_itemGap E) (some 0) 10 [aI i, aI j, aI p] h (kI K) := W.q (fun σ vs M H F => by rw [← q_itemGap F.1]; exact c10_itemGap H i j p) k
theorem lq_touch0 (W : LW h cs ρ ps) (k : ∀ h', LW h' cs ρ ps → K (rTouch ρ ρ.2.1.length) h') : CV (sX10_touchingPairs E) (some 0) 10 [] h (kI K) := W.q (fun σ vs M H F => by rw [← q_touch F.1]; exact c10_touch H) k
theorem LW.n8 (W : LW h cs ρ ps) : ρ.2.1.length ≤ 8 := by
  obtain ⟨-, σ, vs, M, -, F, -⟩ := W
  have := F.1.n
  omega
theorem LW.nh (W : LW h cs ρ ps) : NH ρ := by
  obtain ⟨-, σ, vs, M, -, -, N, -⟩ := W
  exact N
/-! tale, as one number -/
noncomputable def tlE (ρ : RV) (s : Nat) (a : Int64) : Nat → Int64
  | 0 => a
  | j + 1 => tlE ρ s a j * 7 + (rExtent ρ (Int32.ofNat s) (Int32.ofNat j)).toInt64
noncomputable def tlD (ρ : RV) (s : Nat) (a : Int64) : Nat → Int64
  | 0 => a
  | j + 1 => tlD ρ s a j * 11 + (rDoubleArea ρ (Int32.ofNat s) (Int32.ofNat j)).toInt64
noncomputable def tlA (ρ : RV) (s : Nat) (a : Int64) : Int64 := a * 31 + (rPieceCount ρ (Int32.ofNat s)).toInt64
noncomputable def tlS (ρ : RV) : Nat → Int64
  | 0 => (Int32.ofNat ρ.2.1.length).toInt64 * 31 + (rPacked ρ ρ.2.1.length).toInt64
  | s + 1 => tlD ρ s (tlE ρ s (tlA ρ s (tlS ρ s)) 8) 3
noncomputable def tlI (ρ : RV) : Nat → Int64
  | 0 => tlS ρ 4
  | k + 1 => tlI ρ k * 37 + (rItemPlace ρ (Int32.ofNat k) 0).toInt64 * 101 + (rItemPlace ρ (Int32.ofNat k) 1).toInt64
noncomputable def tlB (ρ : RV) : Nat → Int64
  | 0 => tlI ρ ρ.2.1.length
  | s + 1 => tlB ρ s * 41 + (rBB ρ (Int32.ofNat s)).toInt64
noncomputable def tl (ρ : RV) : Int64 := tlB ρ 4 * 43 + (rTouch ρ ρ.2.1.length).toInt64 * 3 + (rClosest ρ).toInt64 + (rFree ρ 0).toInt64 * 5
theorem c12_tale (W : LW h cs ρ ps) : sX12_tale E [aP (some 0)] h (kJ fun v h' => v = tl ρ ∧ LW h' cs ρ ps) := by
  have n8 := W.n8
  refine uX12_tale (fun m h' l0 l1 l3 => ∃ s, m = 1000 + (4 - s) * 100 ∧ s ≤ 4 ∧ l0 = some 0 ∧ l1 = tlS ρ s ∧ l3 = Int32.ofNat s ∧ LW h' cs ρ ps)
    (fun m h' l0 l1 l3 l4 => ∃ s j, m = 1000 + (4 - s) * 100 - 1 - j ∧ s < 4 ∧ j ≤ 8 ∧ l0 = some 0 ∧ l1 = tlE ρ s (tlA ρ s (tlS ρ s)) j ∧ l3 = Int32.ofNat s ∧ l4 = Int32.ofNat j ∧ LW h' cs ρ ps)
    (fun m h' l0 l1 l3 l4 => ∃ s j, m = 1000 + (4 - s) * 100 - 20 - j ∧ s < 4 ∧ j ≤ 3 ∧ l0 = some 0 ∧ l1 = tlD ρ s (tlE ρ s (tlA ρ s (tlS ρ s)) 8) j ∧ l3 = Int32.ofNat s ∧ l4 = Int32.ofNat j ∧ LW h' cs ρ ps)
    (fun m h' l0 l1 l3 => ∃ k, m = 500 - k ∧ k ≤ ρ.2.1.length ∧ l0 = some 0 ∧ l1 = tlI ρ k ∧ l3 = Int32.ofNat k ∧ LW h' cs ρ ps)
    (fun m h' l0 l1 l3 => ∃ s, m = 100 - s ∧ s ≤ 4 ∧ l0 = some 0 ∧ l1 = tlB ρ s ∧ l3 = Int32.ofNat s ∧ LW h' cs ρ ps) ?_ ?_ ?_ ?_ ?_ ?_
  · unfold PX12_tale_0
    exact lq_count W fun h2 W2 => lq_packed W2 fun h4 W4 v5 e5 => ⟨_, 0, rfl, Nat.zero_le _, rfl, e5, rfl, W4⟩
  · rintro m h' l0 l1 l3 ⟨s, rfl, hs, rfl, rfl, rfl, W⟩
    unfold PX12_tale_18
    refine ⟨fun c => ?_, fun c => ?_⟩
    · have := (i32_le (i := 4) (j := s) (by omega) (by omega)).mp c
      have e : s = 4 := by omega
      subst e
      exact ⟨500, by omega, 0, rfl, Nat.zero_le _, rfl, rfl, rfl, W⟩
    · have := mt (i32_le (i := 4) (j := s) (by omega) (by omega)).mpr c
      exact lq_pieces W _ fun h2 W2 v3 e3 => ⟨_, by omega, s, 0, rfl, by omega, Nat.zero_le _, rfl, e3, rfl, rfl, W2⟩
  · rintro m h' l0 l1 l3 l4 ⟨s, j, rfl, hs, hj, rfl, rfl, rfl, rfl, W⟩
    unfold PX12_tale_39
    refine ⟨fun c => ?_, fun c => ?_⟩
    · have := (i32_le (i := 8) (j := j) (by omega) (by omega)).mp c
      have e : j = 8 := by omega
      subst e
      exact ⟨_, by omega, s, 0, rfl, hs, Nat.zero_le _, rfl, rfl, rfl, rfl, W⟩
    · have := mt (i32_le (i := 8) (j := j) (by omega) (by omega)).mpr c
      exact lq_extent W _ _ fun h2 W2 v3 e3 => ⟨_, by omega, s, j + 1, rfl, hs, by omega, rfl, e3, rfl, i32_s j, W2⟩
  · rintro m h' l0 l1 l3 l4 ⟨s, j, rfl, hs, hj, rfl, rfl, rfl, rfl, W⟩
    unfold PX12_tale_70
    refine ⟨fun c => ?_, fun c => ?_⟩
    · have := (i32_le (i := 3) (j := j) (by omega) (by omega)).mp c
      have e : j = 3 := by omega
      subst e
      exact ⟨_, by omega, s + 1, rfl, by omega, rfl, rfl, i32_s s, W⟩
    · have := mt (i32_le (i := 3) (j := j) (by omega) (by omega)).mpr c
      exact lq_area W _ _ fun h2 W2 v3 e3 => ⟨_, by omega, s, j + 1, rfl, hs, by omega, rfl, e3, rfl, i32_s j, W2⟩
  · rintro m h' l0 l1 l3 ⟨k, rfl, hk, rfl, rfl, rfl, W⟩
    unfold PX12_tale_105
    refine lq_count W fun h2 W2 => ⟨fun c => ?_, fun c => ?_⟩
    · have := (i32_le (by omega) (by omega)).mp c
      have e : k = ρ.2.1.length := by omega
      subst e
      exact ⟨100, by omega, 0, rfl, Nat.zero_le _, rfl, rfl, rfl, W2⟩
    · have := mt (i32_le (i := ρ.2.1.length) (j := k) (by omega) (by omega)).mpr c
      exact lq_place W2 _ _ fun h4 W4 => lq_place W4 _ _ fun h6 W6 v7 e7 => ⟨_, by omega, k + 1, rfl, by omega, rfl, e7, i32_s k, W6⟩
  · rintro m h' l0 l1 l3 ⟨s, rfl, hs, rfl, rfl, rfl, W⟩
    unfold PX12_tale_147
    refine ⟨fun c => ?_, fun c => ?_⟩
    · have := (i32_le (i := 4) (j := s) (by omega) (by omega)).mp c
      have e : s = 4 := by omega
      subst e
      exact lq_touch0 W fun h2 W2 => lq_closest W2 fun h4 W4 => lq_free W4 _ fun h6 W6 => ⟨_, rfl, rfl, W6⟩
    · have := mt (i32_le (i := 4) (j := s) (by omega) (by omega)).mpr c
      exact lq_box W _ fun h2 W2 v3 e3 => ⟨_, by omega, s + 1, rfl, by omega, rfl, e3, i32_s s, W2⟩
/-! low, types -/
theorem s12_low {x n : Int32} (hn : ¬ n = 0) : sX12_low E [aI x, aI n] h (kI fun _ h' => h' = h) := by
  refine eX12_low ?_
  unfold PX12_low_0
  exact ⟨hn, _, rfl, rfl⟩
theorem lw_low {x n : Int32} (hn : ¬ n = 0) (k : ∀ r, K r h) : CS (sX12_low E) [aI x, aI n] h (kI K) := csIq (s12_low hn) fun r h' e => by
  subst e
  exact k r
theorem lw_app (W : LW h cs ρ ps) (c : Int32) (k : ∀ r h' cs', LW h' cs' ρ ps → K r h') : CV (sX10_appendCharacter E) (some 0) 10 [aI c] h (kI K) := by
  obtain ⟨L, σ, vs, M, H, F, N⟩ := W
  exact cvIq H.1 (c10_append H c) fun r h' q => k r h' _ ⟨by rw [q.2.2.1]; exact L, σ, vs, M, q.2.1, F, N⟩
theorem lw_wipe (W : LW h cs ρ ps) (k : ∀ r h', LW h' [] ρ ps → K r h') : CV (sX10_clearText E) (some 0) 10 [] h (kI K) := by
  obtain ⟨L, σ, vs, M, H, F, N⟩ := W
  exact cvIq H.1 (c10_clearText H) fun r h' q => k r h' ⟨by rw [q.2.2.1]; exact L, σ, vs, M, q.2.1, F, N⟩
theorem t12_70 {post : Option AV → AH → Prop} {J : AH → Option Nat → Int32 → Int32 → Int32 → Int32 → Int32 → Prop} (W : LW h cs ρ ps) {l1 l2 l3 l4 l5 s1 s2 : Int32} (k : ∀ h' cs', LW h' cs' ρ ps → J h' (some 0) l1 l2 l3 l4 (l5 + 1)) : PX12_types_70 E post J h (some 0) l1 l2 l3 l4 l5 (some 0) s1 s2 := by
  unfold PX12_types_70
  refine lw_app W _ fun _ h2 c2 W2 => lw_app W2 _ fun _ h4 c4 W4 => ⟨fun _ => ?_, fun _ => ?_⟩
  · unfold PX12_types_96
    exact lw_app W4 _ fun _ h6 c6 W6 => k h6 c6 W6
  · unfold PX12_types_96
    exact lw_app W4 _ fun _ h6 c6 W6 => k h6 c6 W6
theorem t12_159 {post : Option AV → AH → Prop} {J : AH → Option Nat → Int32 → Int32 → Int32 → Prop} (W : LW h cs ρ ps) {l1 l4 l5 s1 s2 : Int32} (k : ∀ h' cs', LW h' cs' ρ ps → J h' (some 0) l1 l4 (l5 + 1)) : PX12_types_159 E post J h (some 0) l1 l4 l5 (some 0) s1 s2 := by
  unfold PX12_types_159
  refine lw_app W _ fun _ h2 c2 W2 => lw_app W2 _ fun _ h4 c4 W4 => ⟨fun _ => ?_, fun _ => ?_⟩
  · unfold PX12_types_185
    exact lw_app W4 _ fun _ h6 c6 W6 => k h6 c6 W6
  · unfold PX12_types_185
    exact lw_app W4 _ fun _ h6 c6 W6 => k h6 c6 W6
theorem t12_221 (W : LW h cs ρ ps) {l1 : Int32} : PX12_types_221 E (kV fun h' => ∃ cs', LW h' cs' ρ ps) h (some 0) l1 := by
  unfold PX12_types_221
  exact ⟨fun _ => ⟨rfl, cs, W⟩, fun _ => lw_app W _ fun _ h2 c2 W2 => ⟨rfl, c2, W2⟩⟩
theorem t12_196 (W : LW h cs ρ ps) {l1 l4 : Int32} : PX12_types_196 E (kV fun h' => ∃ cs', LW h' cs' ρ ps) h (some 0) l1 l4 := by
  unfold PX12_types_196
  exact ⟨fun _ => t12_221 W, fun _ => ⟨fun _ => t12_221 W, fun _ => lw_app W _ fun _ h2 c2 W2 => t12_221 W2⟩⟩
theorem c12_types (W : LW h cs ρ ps) (v : Int32) : sX12_types E [aP (some 0), aI v] h (kV fun h' => ∃ cs', LW h' cs' ρ ps) := by
  refine uX12_types (fun m h' l0 l1 l2 l3 l4 l5 => ∃ j cs', m = 100 - j ∧ j ≤ 4 ∧ l0 = some 0 ∧ l5 = Int32.ofNat j ∧ LW h' cs' ρ ps)
    (fun m h' l0 l1 l4 l5 => ∃ j cs', m = 50 - j ∧ j ≤ 3 ∧ l0 = some 0 ∧ l5 = Int32.ofNat j ∧ LW h' cs' ρ ps) ?_ ?_ ?_
  · unfold PX12_types_0
    exact lw_low (by decide) fun x1 v3 _ => lw_low (by decide) fun x4 v6 _ => lw_low (by decide) fun x7 v9 _ => lw_wipe W fun _ h2 W2 => ⟨_, 0, [], rfl, Nat.zero_le _, rfl, rfl, W2⟩
  · rintro m h' l0 l1 l2 l3 l4 l5 ⟨j, c1, rfl, hj, rfl, rfl, W⟩
    unfold PX12_types_44
    refine ⟨fun c => ?_, fun c => ?_⟩
    · exact lw_app W _ fun _ h2 c2 W2 => ⟨50, by omega, 0, c2, rfl, Nat.zero_le _, rfl, rfl, W2⟩
    · have := mt (i32_le (i := 4) (j := j) (by omega) (by omega)).mpr c
      have go : ∀ h' cs', LW h' cs' ρ ps → ∃ m', m' < 100 - j ∧ ∃ j cs', m' = 100 - j ∧ j ≤ 4 ∧ (some 0 : Option Nat) = some 0 ∧ Int32.ofNat _ + 1 = Int32.ofNat j ∧ LW h' cs' ρ ps := fun h2 c2 W2 => ⟨_, by omega, j + 1, c2, rfl, by omega, rfl, i32_s j, W2⟩
      refine ⟨fun _ => ?_, fun _ => ⟨fun _ => t12_70 W go, fun _ => ?_⟩⟩
      · unfold PX12_types_65; exact t12_70 W go
      · unfold PX12_types_65; exact t12_70 W go
  · rintro m h' l0 l1 l4 l5 ⟨j, c1, rfl, hj, rfl, rfl, W⟩
    unfold PX12_types_117
    refine ⟨fun c => t12_196 W, fun c => ⟨fun _ => t12_196 W, fun _ => ⟨fun _ => t12_196 W, fun _ => ?_⟩⟩⟩
    have := mt (i32_le (i := 3) (j := j) (by omega) (by omega)).mpr c
    have go : ∀ h' cs', LW h' cs' ρ ps → ∃ m', m' < 50 - j ∧ ∃ j cs', m' = 50 - j ∧ j ≤ 3 ∧ (some 0 : Option Nat) = some 0 ∧ Int32.ofNat _ + 1 = Int32.ofNat j ∧ LW h' cs' ρ ps := fun h2 c2 W2 => ⟨_, by omega, j + 1, c2, rfl, by omega, rfl, i32_s j, W2⟩
    exact ⟨fun _ => t12_159 W go, fun _ => t12_159 W go⟩
theorem lw_types (W : LW h cs ρ ps) (v : Int32) {K : AH → Prop} (k : ∀ h' cs', LW h' cs' ρ ps → K h') : CS (sX12_types E) [aP (some 0), aI v] h (kV K) := ⟨_, c12_types W v, kV.mono fun h' q => by
  obtain ⟨c, W2⟩ := q
  exact k h' c W2⟩
theorem lw_tale (W : LW h cs ρ ps) {K : Int64 → AH → Prop} (k : ∀ h', LW h' cs ρ ps → K (tl ρ) h') : CS (sX12_tale E) [aP (some 0)] h (kJ K) := ⟨_, c12_tale W, kJ.mono fun v h' q => by
  obtain ⟨rfl, W2⟩ := q
  exact k h' W2⟩
end LQ
