/-! a shape is read from the text -/
theorem ShO.same {h h' : AH} {a : Nat} {S : List (List PT)} {W : List PT} (H : ShO h a S W) (s : ∀ q, a ≤ q → q < a + 4 → h'[q]? = h[q]?) : ShO h' a S W := by
  obtain ⟨l, b, r, t, st, xs, ys, h1, h2, h3, h4, h5⟩ := H
  exact ⟨l, b, r, t, st, xs, ys, (s _ (by omega) (by omega)).trans h1, ⟨(s _ (by omega) (by omega)).trans h2.1, h2.2⟩, ⟨(s _ (by omega) (by omega)).trans h3.1, h3.2⟩, ⟨(s _ (by omega) (by omega)).trans h4.1, h4.2⟩, h5⟩
theorem PolyAt.same {h h' : AH} {a : Nat} {V : List PT} (H : PolyAt h a V) (s : ∀ q, a ≤ q → q < a + 3 → h'[q]? = h[q]?) : PolyAt h' a V := by
  obtain ⟨lw, l, b, r, t, xs, ys, h1, h2, h3, h4⟩ := H
  exact ⟨lw, l, b, r, t, xs, ys, (s _ (by omega) (by omega)).trans h1, ⟨(s _ (by omega) (by omega)).trans h2.1, h2.2⟩, ⟨(s _ (by omega) (by omega)).trans h3.1, h3.2⟩, h4⟩
noncomputable def cvxB (V : List PT) : Bool := @decide (convexP V) (Classical.propDecidable _)
theorem cvxB_iff {V : List PT} : cvxB V = true ↔ convexP V := by
  unfold cvxB
  exact @decide_eq_true_iff (convexP V) (Classical.propDecidable _)
def vxM (cs : List Int32) (p : Nat) : Nat := accP cs 44 (dgP cs (nmQ cs p))
def vxC (cs : List Int32) (p : Nat) : Bool := dgB cs (nmQ cs p) && decide (cur cs (skp cs (dgP cs (nmQ cs p))) = 44)
def vxB (cs : List Int32) (p : Nat) : Bool := vxC cs p && dgB cs (nmQ cs (vxM cs p))
def vxP (cs : List Int32) (p : Nat) : Nat := if dgB cs (nmQ cs p) = true then (if vxC cs p = true then dgP cs (nmQ cs (vxM cs p)) else vxM cs p) else dgP cs (nmQ cs p)
def vxV (cs : List Int32) (p : Nat) : PT := (nmV cs p, nmV cs (vxM cs p))
abbrev R3 (α : Type) : Type := Bool × Nat × α
noncomputable def pcEnd (cs : List Int32) (p : Nat) (V : List PT) : R3 (List PT) := if cur cs (skp cs p) = 59 then (if cvxB V = true then (true, accP cs 59 (skp cs p), V) else (false, skp cs p, V)) else (false, skp cs p, V)
noncomputable def pcGo (cs : List Int32) : Nat → Nat → List PT → R3 (List PT)
  | 0, p, V => pcEnd cs p V
  | t + 1, p, V => if cur cs (skp cs p) = 59 then pcEnd cs (skp cs p) V else if vxB cs (skp cs p) = true then pcGo cs t (vxP cs (skp cs p)) (V ++ [vxV cs (skp cs p)]) else (false, vxP cs (skp cs p), V)
theorem pcGo_succ {cs : List Int32} {t p : Nat} {V : List PT} : pcGo cs (t + 1) p V = if cur cs (skp cs p) = 59 then pcEnd cs (skp cs p) V else if vxB cs (skp cs p) = true then pcGo cs t (vxP cs (skp cs p)) (V ++ [vxV cs (skp cs p)]) else (false, vxP cs (skp cs p), V) := rfl
def shEnd (cs : List Int32) (p : Nat) (S : SH) : R3 SH := (decide (cur cs (skp cs p) = -1 ∧ S ≠ []), skp cs p, S)
noncomputable def shGo (cs : List Int32) : Nat → Nat → SH → R3 SH
  | 0, p, S => shEnd cs p S
  | t + 1, p, S => if cur cs (skp cs p) = -1 then shEnd cs (skp cs p) S else if (pcGo cs 6 (skp cs p) []).1 = true then shGo cs t (pcGo cs 6 (skp cs p) []).2.1 (S ++ [rotP (pcGo cs 6 (skp cs p) []).2.2]) else (false, (pcGo cs 6 (skp cs p) []).2.1, S)
theorem shGo_succ {cs : List Int32} {t p : Nat} {S : SH} : shGo cs (t + 1) p S = if cur cs (skp cs p) = -1 then shEnd cs (skp cs p) S else if (pcGo cs 6 (skp cs p) []).1 = true then shGo cs t (pcGo cs 6 (skp cs p) []).2.1 (S ++ [rotP (pcGo cs 6 (skp cs p) []).2.2]) else (false, (pcGo cs 6 (skp cs p) []).2.1, S) := rfl
def RdK (h : AH) (t : Nat) (cs : List Int32) (p : Nat) (num : Int32) (S : SH) (W V : List PT) : Prop := TxO h t cs p num ∧ h[t + 2]? = some (.inr (7, [aP (some (t + 3)), aP (some (t + 7))])) ∧ ShO h (t + 3) S W ∧ PolyAt h (t + 7) V
theorem RdK.fr {h h' : AH} {t lo hi p : Nat} {cs : List Int32} {num : Int32} {S : SH} {W V : List PT} (H : RdK h t cs p num S W V) (r : Fr lo hi h h') (d : t + 10 ≤ lo ∨ hi ≤ t) : RdK h' t cs p num S W V := by
  obtain ⟨h1, h2, h3, h4⟩ := H
  exact ⟨h1.fr r (by omega), (r.2 _ (by omega)).trans h2, h3.fr r (by omega), h4.fr r (by omega)⟩
/-- a reader's step that changes the text alone -/
theorem RdK.tx {h h' : AH} {t p p' : Nat} {cs : List Int32} {num num' : Int32} {S : SH} {W V : List PT} (H : RdK h t cs p num S W V) (T : TxO h' t cs p' num') (r : Fr t (t + 1) h h') : RdK h' t cs p' num' S W V := by
  obtain ⟨h1, h2, h3, h4⟩ := H
  exact ⟨T, (r.2 _ (by omega)).trans h2, h3.fr r (by omega), h4.fr r (by omega)⟩
theorem RdK.po {h h' : AH} {t p : Nat} {cs : List Int32} {num : Int32} {S : SH} {W V V' : List PT} (H : RdK h t cs p num S W V) (P : PolyAt h' (t + 7) V') (r : Fr (t + 7) (t + 10) h h') : RdK h' t cs p num S W V' := by
  obtain ⟨h1, h2, h3, h4⟩ := H
  exact ⟨h1.fr r (by omega), (r.2 _ (by omega)).trans h2, h3.fr r (by omega), P⟩
theorem RdK.sh {h h' : AH} {t p : Nat} {cs : List Int32} {num : Int32} {S S' : SH} {W W' V : List PT} (H : RdK h t cs p num S W V) (G : ShO h' (t + 3) S' W') (r : Fr (t + 3) (t + 7) h h') : RdK h' t cs p num S' W' V := by
  obtain ⟨h1, h2, h3, h4⟩ := H
  exact ⟨h1.fr r (by omega), (r.2 _ (by omega)).trans h2, G, h4.fr r (by omega)⟩
section SR
variable {E : EV} {h : AH} {t p : Nat} {cs : List Int32} {num : Int32} {S : SH} {W V : List PT}
theorem r01 {c : Prop} [Decidable c] {r : Int32} (e : r = (if c then 1 else 0)) (h : ¬ r = 0) : c := Decidable.of_not_not fun q => h (by rw [e, if_neg q])
theorem r00 {c : Prop} [Decidable c] {r : Int32} (e : r = (if c then 1 else 0)) (h : r = 0) : ¬ c := fun q => by rw [e, if_pos q] at h; exact absurd h (by decide)
theorem s7_vertex (H : RdK h t cs p num S W V) (hV : V.length < 18) : sX7_readVertex E [aP (some (t + 2)), aP (some t)] h (kI fun r h' => r = (if vxB cs p = true then 1 else 0) ∧ (∃ n', RdK h' t cs (vxP cs p) n' S W (if vxB cs p = true then V ++ [vxV cs p] else V)) ∧ Fr t (t + 10) h h') := by
  refine eX7_readVertex ?_
  unfold PX7_readVertex_0
  refine cvIq H.1.ad (s9_number H.1) fun r1 h2 q1 => ⟨fun c => ?_, fun c => ?_⟩
  · have b1 := r01 q1.1 c
    have H2 := H.tx q1.2.1 q1.2.2
    refine (rdI_iff H2.1.ad).mpr ⟨_, rfl, cvIq H2.1.ad (s9_accept H2.1 (by decide)) fun r5 h6 q6 => ⟨fun c5 => ?_, fun c5 => ?_⟩⟩
    · have b5 := r00 q6.1 c5
      have H6 := H2.tx q6.2.1 q6.2.2
      have e1 : vxC cs p = false := by unfold vxC; simp [b5]
      have e2 : ¬ vxB cs p = true := by unfold vxB; simp [e1]
      refine ⟨_, rfl, by rw [if_neg e2], ⟨nmV cs p, ?_⟩, (q1.2.2.trans q6.2.2).weak (by omega) (by omega)⟩
      rw [if_neg e2]
      unfold vxP; rw [if_pos b1, e1, if_neg (by decide)]; exact H6
    · have b5 := r01 q6.1 c5
      have H6 := H2.tx q6.2.1 q6.2.2
      have e1 : vxC cs p = true := by unfold vxC; rw [Bool.and_eq_true]; exact ⟨b1, decide_eq_true b5⟩
      refine cvIq H6.1.ad (s9_number H6.1) fun r7 h8 q8 => ⟨fun c7 => ?_, fun c7 => ?_⟩
      · have b7 := r01 q8.1 c7
        have H8 := H6.tx q8.2.1 q8.2.2
        have e2 : vxB cs p = true := by unfold vxB; rw [e1, Bool.true_and]; exact b7
        obtain ⟨_, g5⟩ := H8.2.2.2.ad
        refine (rdP_iff H8.2.1).mpr ⟨_, rfl, (rdI_iff H8.1.ad).mpr ⟨_, rfl, cvVq g5 (s5_add H8.2.2.2 hV _ _) fun h12 q12 => ?_⟩⟩
        refine ⟨_, rfl, by rw [if_pos e2], ⟨nmV cs (vxM cs p), ?_⟩, (((q1.2.2.trans q6.2.2).trans q8.2.2).weak (by omega) (by omega)).trans (q12.2.weak (by omega) (by omega))⟩
        rw [if_pos e2]
        unfold vxP; rw [if_pos b1, if_pos e1]; exact H8.po q12.1 q12.2
      · have b7 := r00 q8.1 c7
        have H8 := H6.tx q8.2.1 q8.2.2
        have e2 : ¬ vxB cs p = true := by unfold vxB; rw [e1, Bool.true_and]; exact b7
        refine ⟨_, rfl, by rw [if_neg e2], ⟨nmV cs (vxM cs p), ?_⟩, (((q1.2.2.trans q6.2.2).trans q8.2.2).weak (by omega) (by omega))⟩
        rw [if_neg e2]
        unfold vxP; rw [if_pos b1, if_pos e1]; exact H8
  · have b1 := r00 q1.1 c
    have H2 := H.tx q1.2.1 q1.2.2
    have e2 : ¬ vxB cs p = true := by unfold vxB vxC; simp [b1]
    refine ⟨_, rfl, by rw [if_neg e2], ⟨nmV cs p, ?_⟩, q1.2.2.weak (by omega) (by omega)⟩
    rw [if_neg e2]
    unfold vxP; rw [if_neg b1]; exact H2
theorem s7_piece (H : RdK h t cs p num S W V) : sX7_readPiece E [aP (some (t + 2)), aP (some t)] h (kI fun r h' => r = (if (pcGo cs 6 p []).1 = true then 1 else 0) ∧ (∃ n', RdK h' t cs (pcGo cs 6 p []).2.1 n' S W (pcGo cs 6 p []).2.2) ∧ Fr t (t + 10) h h') := by
  refine uX7_readPiece (fun m h' l0 l1 l2 => ∃ q n' V, m ≤ 6 ∧ l0 = some (t + 2) ∧ l1 = some t ∧ l2 = Int32.ofNat (6 - m) ∧ V.length + m = 6 ∧ RdK h' t cs q n' S W V ∧ pcGo cs m q V = pcGo cs 6 p [] ∧ Fr t (t + 10) h h') ?_ ?_
  · unfold PX7_readPiece_0
    obtain ⟨_, g5⟩ := H.2.2.2.ad
    refine (rdP_iff H.2.1).mpr ⟨_, rfl, cvVq g5 (s5_clear H.2.2.2) fun h3 q3 => ?_⟩
    exact ⟨6, p, num, [], Nat.le_refl _, rfl, rfl, rfl, rfl, H.po q3.1 q3.2, rfl, q3.2.weak (by omega) (by omega)⟩
  · rintro m h' l0 l1 l2 ⟨q, n', V, hm, rfl, rfl, rfl, hV, H', hgo, f⟩
    have end_ : ∀ q h2 n2, RdK h2 t cs q n2 S W V → pcEnd cs q V = pcGo cs 6 p [] → Fr t (t + 10) h h2 → PX7_readPiece_40 E (kI fun r h' => r = (if (pcGo cs 6 p []).1 = true then 1 else 0) ∧ (∃ n', RdK h' t cs (pcGo cs 6 p []).2.1 n' S W (pcGo cs 6 p []).2.2) ∧ Fr t (t + 10) h h') h2 (some (t + 2)) (some t) := fun q h2 n2 H2 he f2 => by
      unfold PX7_readPiece_40
      rw [← he]
      refine cvIq H2.1.ad (s9_isNext H2.1 59) fun r3 h3 q3 => ⟨fun c => ?_, fun c => ?_⟩
      · have b := r00 q3.1 c
        have H3 := H2.tx q3.2.1 q3.2.2
        unfold pcEnd
        rw [if_neg b]
        exact ⟨_, rfl, rfl, ⟨_, H3⟩, f2.trans (q3.2.2.weak (by omega) (by omega))⟩
      · have b := r01 q3.1 c
        have H3 := H2.tx q3.2.1 q3.2.2
        obtain ⟨_, g5⟩ := H3.2.2.2.ad
        refine (rdP_iff H3.2.1).mpr ⟨_, rfl, cvIq g5 (s5_isConvex H3.2.2.2) fun r4 h4 q4 => ?_⟩
        obtain ⟨qa, qb, rfl⟩ := q4
        by_cases cv : convexP V
        · rw [qa cv]
          refine ⟨fun c => absurd c (by decide), fun _ => cvIq H3.1.ad (s9_accept H3.1 (by decide)) fun r5 h5 q5 => ?_⟩
          have H5 := H3.tx q5.2.1 q5.2.2
          have e5 : cur cs (skp cs (skp cs q)) = 59 := by rw [skp_skp]; exact b
          refine ⟨fun c6 => absurd e5 (r00 q5.1 c6), fun _ => ⟨_, rfl, ?_, ⟨n2, ?_⟩, (f2.trans (q3.2.2.weak (by omega) (by omega))).trans (q5.2.2.weak (by omega) (by omega))⟩⟩
          · unfold pcEnd; rw [if_pos b, if_pos (cvxB_iff.mpr cv)]; rfl
          · unfold pcEnd; rw [if_pos b, if_pos (cvxB_iff.mpr cv)]; exact H5
        · rw [qb cv]
          refine ⟨fun _ => ⟨_, rfl, ?_, ⟨n2, ?_⟩, f2.trans (q3.2.2.weak (by omega) (by omega))⟩, fun c => absurd rfl c⟩
          · unfold pcEnd; rw [if_pos b, if_neg (fun q => cv (cvxB_iff.mp q))]; rfl
          · unfold pcEnd; rw [if_pos b, if_neg (fun q => cv (cvxB_iff.mp q))]; exact H3
    unfold PX7_readPiece_9
    refine ⟨fun c => ?_, fun c => ?_⟩
    · have : 6 ≤ 6 - m := (i32_le (i := 6) (by omega) (by omega)).mp c
      have : m = 0 := by omega
      subst this
      exact end_ q h' n' H' hgo f
    · have hm0 : ¬ 6 ≤ 6 - m := fun q => c ((i32_le (i := 6) (j := 6 - m) (by omega) (by omega)).mpr q)
      obtain ⟨m, rfl⟩ : ∃ k, m = k + 1 := ⟨m - 1, by omega⟩
      rw [pcGo_succ] at hgo
      refine cvIq H'.1.ad (s9_isNext H'.1 59) fun r3 h3 q3 => ⟨fun c3 => ?_, fun c3 => ?_⟩
      · rw [if_pos (r01 q3.1 c3)] at hgo
        exact end_ _ h3 _ (H'.tx q3.2.1 q3.2.2) hgo (f.trans (q3.2.2.weak (by omega) (by omega)))
      · rw [if_neg (r00 q3.1 c3)] at hgo
        have H3 := H'.tx q3.2.1 q3.2.2
        have g7 := H3.2.1
        refine cvIq g7 (s7_vertex H3 (by omega)) fun r4 h4 q4 => ⟨fun c4 => ?_, fun c4 => ?_⟩
        · have b := r01 q4.1 c4
          rw [if_pos b] at hgo
          obtain ⟨n4, H4⟩ := q4.2.1
          rw [if_pos b] at H4
          exact ⟨m, by omega, _, n4, _, by omega, rfl, rfl, by rw [i32_s]; congr 1; omega, by simp; omega, H4, hgo, (f.trans (q3.2.2.weak (by omega) (by omega))).trans q4.2.2⟩
        · have b := r00 q4.1 c4
          rw [if_neg b] at hgo
          obtain ⟨n4, H4⟩ := q4.2.1
          rw [if_neg b] at H4
          rw [← hgo]
          exact ⟨_, rfl, rfl, ⟨n4, H4⟩, (f.trans (q3.2.2.weak (by omega) (by omega))).trans q4.2.2⟩
theorem pcGo_len : ∀ {t p : Nat} {V : List PT}, (pcGo cs t p V).2.2.length ≤ V.length + t := fun {t} => by
  have e : ∀ p V, (pcEnd cs p V).2.2 = V := fun p V => by
    unfold pcEnd; split
    · split <;> rfl
    · rfl
  induction t with
  | zero => intro p V; show (pcEnd cs p V).2.2.length ≤ _; rw [e]; omega
  | succ t ih =>
    intro p V
    rw [pcGo_succ]
    split
    · rw [e]; omega
    · split
      · have := ih (p := vxP cs (skp cs p)) (V := V ++ [vxV cs (skp cs p)])
        rw [List.length_append, List.length_singleton] at this; omega
      · simp
theorem rot_len {V : List PT} : (rotP V).length = V.length := by unfold rotP; simp
theorem s7_read (H : RdK h t cs p num S W V) : sX7_read E [aP (some (t + 2)), aP (some t)] h (kI fun r h' => r = (if (shGo cs 3 0 []).1 = true then 1 else 0) ∧ (∃ n' V', RdK h' t cs (shGo cs 3 0 []).2.1 n' (shGo cs 3 0 []).2.2 [] V') ∧ Fr t (t + 10) h h') := by
  refine uX7_read (fun m h' l0 l1 l2 => ∃ q n' S V, m ≤ 3 ∧ l0 = some (t + 2) ∧ l1 = some t ∧ l2 = Int32.ofNat (3 - m) ∧ S.length + m = 3 ∧ S.flatten.length + 6 * m ≤ 18 ∧ RdK h' t cs q n' S [] V ∧ shGo cs m q S = shGo cs 3 0 [] ∧ Fr t (t + 10) h h') ?_ ?_
  · unfold PX7_read_0
    obtain ⟨_, g6⟩ := H.2.2.1.ad
    refine (rdP_iff H.2.1).mpr ⟨_, rfl, cvVq g6 (s6_clear H.2.2.1) fun h3 q3 => ?_⟩
    have H3 := H.sh q3.1 q3.2
    refine (wr_iff H3.1.ad).mpr ⟨Nat.le_of_ble_eq_true rfl, ?_⟩
    have H4 := H3.tx (H3.1.pos (q := 0) (by omega)) (Fr.set (Nat.le_refl t) (by omega))
    exact ⟨3, 0, num, [], V, Nat.le_refl _, rfl, rfl, rfl, rfl, Nat.le_refl _, H4, rfl, (q3.2.weak (by omega) (by omega)).trans (Fr.set (by omega) (by omega))⟩
  · rintro m h' l0 l1 l2 ⟨q, n', S, V, hm, rfl, rfl, rfl, hS, hfl, H', hgo, f⟩
    have end_ : ∀ q h2 n2, RdK h2 t cs q n2 S [] V → shEnd cs q S = shGo cs 3 0 [] → Fr t (t + 10) h h2 → PX7_read_53 E (kI fun r h' => r = (if (shGo cs 3 0 []).1 = true then 1 else 0) ∧ (∃ n' V', RdK h' t cs (shGo cs 3 0 []).2.1 n' (shGo cs 3 0 []).2.2 [] V') ∧ Fr t (t + 10) h h') h2 (some (t + 2)) (some t) := fun q h2 n2 H2 he f2 => by
      unfold PX7_read_53
      rw [← he]
      refine cvIq H2.1.ad (s9_isAtEnd H2.1) fun r3 h3 q3 => ⟨fun c => ?_, fun c => ?_⟩
      · have b := r00 q3.1 c
        have H3 := H2.tx q3.2.1 q3.2.2
        exact ⟨_, rfl, by unfold shEnd; simp [b], ⟨_, V, H3⟩, f2.trans (q3.2.2.weak (by omega) (by omega))⟩
      · have b := r01 q3.1 c
        have H3 := H2.tx q3.2.1 q3.2.2
        obtain ⟨_, g6⟩ := H3.2.2.1.ad
        refine (rdP_iff H3.2.1).mpr ⟨_, rfl, cvI g6 (s6_isEmpty H3.2.2.1) ⟨fun c4 => ?_, fun c4 => ?_⟩⟩
        · have e0 : S = [] := Classical.byContradiction fun z => c4 (by rw [if_neg z])
          exact ⟨_, rfl, by unfold shEnd; simp [e0], ⟨_, V, H3⟩, f2.trans (q3.2.2.weak (by omega) (by omega))⟩
        · have e0 : S ≠ [] := fun z => by rw [if_pos z] at c4; exact absurd c4 (by decide)
          exact ⟨_, rfl, by unfold shEnd; simp [b, e0], ⟨_, V, H3⟩, f2.trans (q3.2.2.weak (by omega) (by omega))⟩
    unfold PX7_read_14
    refine ⟨fun c => ?_, fun c => ?_⟩
    · have : 3 ≤ 3 - m := (i32_le (i := 3) (by omega) (by omega)).mp c
      have : m = 0 := by omega
      subst this
      exact end_ q h' n' H' hgo f
    · have hm0 : ¬ 3 ≤ 3 - m := fun q => c ((i32_le (i := 3) (j := 3 - m) (by omega) (by omega)).mpr q)
      obtain ⟨m, rfl⟩ : ∃ k, m = k + 1 := ⟨m - 1, by omega⟩
      rw [shGo_succ] at hgo
      refine cvIq H'.1.ad (s9_isAtEnd H'.1) fun r3 h3 q3 => ⟨fun c3 => ?_, fun c3 => ?_⟩
      · rw [if_pos (r01 q3.1 c3)] at hgo
        exact end_ _ h3 _ (H'.tx q3.2.1 q3.2.2) hgo (f.trans (q3.2.2.weak (by omega) (by omega)))
      · rw [if_neg (r00 q3.1 c3)] at hgo
        have H3 := H'.tx q3.2.1 q3.2.2
        have hlen := pcGo_len (cs := cs) (t := 6) (p := skp cs q) (V := [])
        refine cvIq H3.2.1 (s7_piece H3) fun r4 h4 q4 => ⟨fun c4 => ?_, fun c4 => ?_⟩
        · have b := r01 q4.1 c4
          rw [if_pos b] at hgo
          obtain ⟨n4, H4⟩ := q4.2.1
          obtain ⟨_, g6⟩ := H4.2.2.1.ad
          refine (rdP_iff H4.2.1).mpr ⟨_, rfl, (rdP_iff H4.2.1).mpr ⟨_, rfl, cvVq g6 (s6_addPiece H4.2.2.1 H4.2.2.2 (by omega) (by omega) (by simp at hlen; omega)) fun h8 q8 => ?_⟩⟩
          exact ⟨m, by omega, _, n4, _, _, by omega, rfl, rfl, by rw [i32_s]; congr 1; omega, by simp; omega, by rw [List.flatten_append, List.length_append, List.flatten_cons, List.flatten_nil, List.append_nil, rot_len]; simp at hlen; omega, H4.sh q8.1 (q8.2.weak (by omega) (by omega)), hgo, ((f.trans (q3.2.2.weak (by omega) (by omega))).trans q4.2.2).trans (q8.2.weak (by omega) (by omega))⟩
        · have b := r00 q4.1 c4
          rw [if_neg b] at hgo
          obtain ⟨n4, H4⟩ := q4.2.1
          rw [← hgo]
          refine ⟨_, rfl, rfl, ⟨n4, _, H4⟩, (f.trans (q3.2.2.weak (by omega) (by omega))).trans q4.2.2⟩
end SR
