/-! what the law asks after a call -/
def lie (ρ : RV) (i j : Nat) : Int32 := liePR (rit ρ i).1 (rit ρ j).1 ((rit ρ j).2.1 - (rit ρ i).2.1) ((rit ρ j).2.2 - (rit ρ i).2.2)
def rtp (ρ : RV) (i j : Nat) : Int32 := (pr2 ρ.2.1.length i j).foldl (fun s ab => if lie ρ ab.1 ab.2 = 1 then s + 1 else s) 0
theorem rtp_zero (ρ : RV) : rtp ρ 0 1 = 0 := by unfold rtp; rw [pr2_zero]; rfl
theorem rtp_succ (ρ : RV) {i j : Nat} (h : i + 1 ≤ j) : rtp ρ i (j + 1) = if lie ρ i j = 1 then rtp ρ i j + 1 else rtp ρ i j := by
  unfold rtp; rw [pr2_succ h, List.foldl_append]; rfl
theorem rtp_row (ρ : RV) (i : Nat) : rtp ρ i ρ.2.1.length = rtp ρ (i + 1) (i + 1 + 1) := by unfold rtp; rw [pr2_row]
section CK
variable {M : Nat → SH} {σ : SV} {ρ : RV}
theorem rel_lie (H : StR M σ ρ) {i j : Nat} (hi : i < σ.2.1.length) (hj : j < σ.2.1.length) : relP (itM M σ i) (itM M σ j) (iX σ j - iX σ i) (iY σ j - iY σ i) = lie ρ i j := by
  obtain ⟨a1, a2, ⟨a3, a4⟩, a5⟩ := H.it hi
  obtain ⟨b1, b2, ⟨b3, b4⟩, b5⟩ := H.it hj
  rw [a3, a4, b3, b4]
  exact rel_eq a1 b1 (np_sub b5 a5).1
theorem touch_rtp (H : StR M σ ρ) : cTouch M σ = rtp ρ ρ.2.1.length (ρ.2.1.length + 1) := by
  have n8 := H.n
  unfold cTouch tpGo rtp
  rw [← n8.1]
  have e : ∀ (l : List (Nat × Nat)) (s : Int32), (∀ ab, ab ∈ l → ab.1 < σ.2.1.length ∧ ab.2 < σ.2.1.length) → l.foldl (fun s ij => if relP (itM M σ ij.1) (itM M σ ij.2) (iX σ ij.2 - iX σ ij.1) (iY σ ij.2 - iY σ ij.1) = 1 then s + 1 else s) s = l.foldl (fun s ab => if lie ρ ab.1 ab.2 = 1 then s + 1 else s) s := fun l => by
    induction l with
    | nil => intro s _; rfl
    | cons ab l ih =>
      intro s hl
      have m := hl ab (List.mem_cons_self ..)
      rw [List.foldl_cons, List.foldl_cons, ih _ fun x hx => hl x (List.mem_cons_of_mem _ hx), rel_lie H m.1 m.2]
  exact e _ _ fun ab h => pr2_mem (Nat.le_refl _) (fun q => absurd q (Nat.lt_irrefl _)) (fun _ => Nat.le_refl _) h
theorem gap_iff (H : StR M σ ρ) (N : NH ρ) {i j : Nat} (hij : i < j) (hj : j < ρ.2.1.length) : rItemGap ρ (Int32.ofNat i) (Int32.ofNat j) 0 = 0 ↔ lie ρ i j = 1 := by
  have n8 := H.n
  have hj2 : j < σ.2.1.length := by rw [n8.1]; exact hj
  have hi2 : i < σ.2.1.length := by omega
  rw [← q_itemGap H]
  unfold cItemGap
  rw [ifC_pos ⟨itm_of n8.2 hi2, itm_of n8.2 hj2, fun q => by have := i32_inj (by omega) (by omega) q; omega, Or.inl rfl⟩, nx_of (by omega), nx_of (by omega)]
  obtain ⟨⟨br, -⟩, ⟨pos, -⟩, -⟩ := ig_eq H hi2 hj2
  rw [part_zero (br.ok pos) br.1.2, ← rel_lie H hi2 hj2]
  obtain ⟨a1, a2, ⟨a3, a4⟩, a5⟩ := H.it hi2
  obtain ⟨b1, b2, ⟨b3, b4⟩, b5⟩ := H.it hj2
  have bd := (np_sub b5 a5).1
  unfold igP
  rw [a3, a4, b3, b4, gap_zero a1 b1 a2 b2 bd]
  obtain ⟨r1, r2, -⟩ := rel_spec a1 b1 bd
  have nh := N i j hij hj
  have no2 : ¬ relP (itM M σ i) (itM M σ j) ((rit ρ j).2.1 - (rit ρ i).2.1) ((rit ρ j).2.2 - (rit ρ i).2.2) = 2 := fun q => by
    have t := r2.mp q
    unfold rHit at nh
    rw [nh] at t
    exact absurd t (by decide)
  constructor
  · intro q
    rcases r1 with r | r | r
    · exact absurd r q
    · exact r
    · exact absurd r no2
  · intro q
    rw [q]; decide
theorem bb_nn (H : StR M σ ρ) (h0 : 0 < ρ.2.1.length) {s : Int32} (hs : s = 0 ∨ s = 1) : 0 ≤ rBB ρ s := by
  have n8 := H.n
  have hs4 : s = 0 ∨ s = 1 ∨ s = 2 ∨ s = 3 := by rcases hs with h | h <;> simp [h]
  have hr : ¬ s < 0 ∧ s ≤ 3 := by rcases hs with rfl | rfl <;> decide
  rw [← q_box H]
  unfold cBB
  rw [ifC_pos hr, if_neg (by omega)]
  obtain ⟨k, k1, k2, -⟩ := mm_fold (fun k => isV M σ k s) s (σ.2.1.length - 1)
  have k2 : (List.range (σ.2.1.length - 1)).foldl (bbStep M σ s) (isV M σ 0 s) = isV M σ k s := k2
  rw [k2]
  have hk : k < σ.2.1.length := by omega
  obtain ⟨⟨-, b3⟩, b4⟩ := is_bv H hs4 hk
  have sg : (rsgn s).toInt = -1 := by rcases hs with rfl | rfl <;> decide
  rw [sg] at b3
  have con := H.2.2.2 k (by rw [← n8.1]; exact hk)
  unfold rCon at con
  have con := of_decide_eq_true con
  obtain ⟨a1, a2, -, a5⟩ := H.it hk
  obtain ⟨⟨⟨m1, m2⟩, m3, m4⟩, -⟩ := hg_b a1 a2
  obtain ⟨p1, p2, p3, p4⟩ := a5
  have z0 : (0 : Int32).toInt = 0 := by decide
  have ng : ∀ a : Int32, -100 ≤ a.toInt → a.toInt ≤ 100 → ((-1 : Int32) * a).toInt = -a.toInt := fun a h1 h2 => by
    have := (i32_mulE (x := -1) (y := a) (by decide) (by decide) (by omega) (by omega)).1
    have z1 : (-1 : Int32).toInt = -1 := by decide
    rw [this, z1]; omega
  rw [Int32.le_iff_toInt_le, z0]
  rcases hs with rfl | rfl
  · have e : rbv ρ 0 k = hgP (rit ρ k).1 (-1) 0 + (-1) * (rit ρ k).2.1 := by
      unfold rbv
      rw [if_pos (by decide), show rsgn 0 = -1 by decide]
    have nx := ng (rit ρ k).2.1 (by omega) (by omega)
    have c := con.2.2.1
    rw [Int32.lt_iff_toInt_lt] at c
    rw [e, i32_addE (by omega) (by omega) (by omega) (by omega), nx] at b3
    omega
  · have e : rbv ρ 1 k = hgP (rit ρ k).1 0 (-1) + (-1) * (rit ρ k).2.2 := by
      unfold rbv
      rw [if_neg (by decide), show rsgn 1 = -1 by decide]
    have nx := ng (rit ρ k).2.2 (by omega) (by omega)
    have c := con.2.2.2
    rw [Int32.lt_iff_toInt_lt] at c
    rw [e, i32_addE (by omega) (by omega) (by omega) (by omega), nx] at b3
    omega
end CK
section LC
variable {E : EV} {h : AH} {cs : List Int32} {ρ : RV} {ps : List RV} {K : Int32 → AH → Prop}
theorem lq_touch (W : LW h cs ρ ps) (k : ∀ h', LW h' cs ρ ps → K (rtp ρ ρ.2.1.length (ρ.2.1.length + 1)) h') : CV (sX10_touchingPairs E) (some 0) 10 [] h (kI K) := W.q (fun σ vs M H F => by rw [← touch_rtp F.1]; exact c10_touch H) k
theorem LW.gap (W : LW h cs ρ ps) {i j : Nat} (hij : i < j) (hj : j < ρ.2.1.length) : rItemGap ρ (Int32.ofNat i) (Int32.ofNat j) 0 = 0 ↔ lie ρ i j = 1 := by
  obtain ⟨-, σ, vs, M, -, F, N, -⟩ := W
  exact gap_iff F.1 N hij hj
theorem LW.box (W : LW h cs ρ ps) (h0 : 0 < ρ.2.1.length) {s : Int32} (hs : s = 0 ∨ s = 1) : 0 ≤ rBB ρ s := by
  obtain ⟨-, σ, vs, M, -, F, -⟩ := W
  exact bb_nn F.1 h0 hs
theorem lq_esc (W : LW h cs ρ ps) (h1 : ρ.2.1.length = 1) {d : Int32} (hd : Dirn d) (k : ∀ h', LW h' cs ρ ps → K 1 h') : CV (sX10_escapes E) (some 0) 10 [aI (Int32.ofNat 0), aI d] h (kI K) := W.q (fun σ vs M H F => by
  have n := F.1.n
  have l1 : σ.2.1.length = 1 := by rw [n.1]; exact h1
  have e : cEscapes M σ (Int32.ofNat 0) d = 1 := by
    unfold cEscapes
    rw [ifC_pos ⟨itm_of n.2 (by omega), hd⟩]
    have b : boP M σ (nx (Int32.ofNat 0)) d = 0 := by
      unfold boP
      rw [l1]
      rfl
    rw [if_pos b]
  have sp := c10_escapes (E := E) H (Int32.ofNat 0) d
  rw [e] at sp
  exact sp) k
theorem cmp_self (x : Int64) : lg_cmp x x = 0 := by
  unfold lg_cmp
  rw [if_neg (by rw [gt_iff_lt, Int64.lt_iff_toInt_lt]; omega), if_pos rfl]
theorem push_mem (ρ : RV) (ps : List RV) : ρ ∈ pushR ps ρ := by
  unfold pushR
  split
  · exact List.mem_append_right _ (List.mem_singleton.mpr rfl)
  · exact List.mem_append_right _ (List.mem_singleton.mpr rfl)
theorem lw_undo {ρ0 : RV} {ps0 : List RV} (W : LW h cs ρ (pushR ps0 ρ0)) (k : ∀ h', LW h' cs ρ0 (pushR ps0 ρ0).dropLast → K (Int32.ofNat ((pushR ps0 ρ0).length - 1)) h') : CV (sX10_undo E) (some 0) 10 [] h (kI K) := by
  obtain ⟨L, σ, vs, M, H, F, N, Ns⟩ := W
  obtain ⟨e, F'⟩ := q_undo F
  rw [d_undo] at e F'
  refine cvIq H.1 (c10_undo H) fun r h' q => ?_
  obtain ⟨q1, q2, q3⟩ := q
  rw [q1, e]
  exact k h' ⟨by rw [q3.1]; exact L, _, _, M, q2, F', Ns _ (push_mem ρ0 ps0), Ns.pop⟩
end LC
