/-! the hull of a shape -/
def tAt (T : List PT) (k : Nat) : PT := T.getD k (0, 0)
def lowStep (T : List PT) (b k : Nat) : Nat := if (tAt T (k + 1)).2 < (tAt T b).2 then k + 1 else if (tAt T (k + 1)).2 = (tAt T b).2 ∧ (tAt T (k + 1)).1 < (tAt T b).1 then k + 1 else b
def lowT (T : List PT) : Nat := (List.range (T.length - 1)).foldl (lowStep T) 0
def nxTurn (T : List PT) (v b k : Nat) : Int32 := ((tAt T b).1 - (tAt T v).1) * ((tAt T k).2 - (tAt T v).2) - ((tAt T b).2 - (tAt T v).2) * ((tAt T k).1 - (tAt T v).1)
def nxSq (T : List PT) (v k : Nat) : Int32 := ((tAt T k).1 - (tAt T v).1) * ((tAt T k).1 - (tAt T v).1) + ((tAt T k).2 - (tAt T v).2) * ((tAt T k).2 - (tAt T v).2)
def nxStep (T : List PT) (v b k : Nat) : Nat := if nxTurn T v b k < 0 ∨ nxTurn T v b k = 0 ∧ nxSq T v b < nxSq T v k then k else b
def nxT (T : List PT) (v : Nat) : Nat := (List.range T.length).foldl (nxStep T v) v
def hullGo (T : List PT) (f : Nat) : Nat → Nat → List PT
  | 0, _ => []
  | t + 1, v => tAt T v :: (if tAt T (nxT T v) = tAt T f then [] else hullGo T f t (nxT T v))
theorem hullGo_succ {T : List PT} {f t v : Nat} : hullGo T f (t + 1) v = tAt T v :: (if tAt T (nxT T v) = tAt T f then [] else hullGo T f t (nxT T v)) := rfl
def hullP (T : List PT) : List PT := hullGo T (lowT T) 18 (lowT T)
theorem fold_lt {f : Nat → Nat → Nat} {n : Nat} (hf : ∀ b k, k < n → f b k = b ∨ f b k = k ∨ f b k = k + 1) : ∀ (j : Nat) (m b : Nat), j ≤ n → b < m → (∀ k, k < j → k + 1 < m) → (List.range j).foldl f b < m := by
  intro j
  induction j with
  | zero => intro m b _ hb _; exact hb
  | succ j ih =>
    intro m b hj hb hk
    rw [fold_succ]
    have i1 := ih m b (by omega) hb fun k q => hk k (by omega)
    have i2 := hk j (by omega)
    rcases hf ((List.range j).foldl f b) j (by omega) with q | q | q <;> omega
theorem lowT_lt {T : List PT} (h : T ≠ []) : lowT T < T.length := by
  have hpos : 0 < T.length := List.length_pos_iff.mpr h
  refine fold_lt (n := T.length - 1) (fun b k _ => ?_) _ _ _ (Nat.le_refl _) hpos fun k hk => by omega
  unfold lowStep
  split
  · exact Or.inr (Or.inr rfl)
  · split
    · exact Or.inr (Or.inr rfl)
    · exact Or.inl rfl
theorem nx_lt {T : List PT} {v j b : Nat} (hb : b < T.length) (hj : j ≤ T.length) : (List.range j).foldl (nxStep T v) b < T.length := by
  induction j with
  | zero => exact hb
  | succ j ih =>
    rw [fold_succ]
    have i1 := ih (by omega)
    have i2 : ∀ b k, nxStep T v b k = k ∨ nxStep T v b k = b := fun b k => by
      unfold nxStep
      split
      · exact Or.inl rfl
      · exact Or.inr rfl
    rcases i2 ((List.range j).foldl (nxStep T v) b) j with q | q <;> omega
theorem nxT_lt {T : List PT} {v : Nat} (hv : v < T.length) : nxT T v < T.length := nx_lt hv (Nat.le_refl _)
section HU
variable {E : EV} {h : AH} {a p : Nat} {S : List (List PT)} {V : List PT}
theorem ShO.flat (H : ShO h a S []) : ∃ fs, h[a]? = some (.inr (6, fs)) ∧ fs[4]? = some (aI (Int32.ofNat S.flatten.length)) ∧ S.flatten.length ≤ 18 := by
  obtain ⟨_, _, _, _, _, _, _, h1, -, -, -, -, h6, -⟩ := H
  rw [List.append_nil] at h1 h6
  exact ⟨_, h1, rfl, h6⟩
theorem t6_x (H : ShO h a S []) {j : Nat} (hj : j < S.flatten.length) : sX6_x E [aP (some a), aI (Int32.ofNat j)] h (kI fun r h' => r = (tAt S.flatten j).1 ∧ h' = h) := by
  have := s6_x (E := E) H (j := j) (by rw [List.append_nil]; exact hj)
  rw [List.append_nil] at this; exact this
theorem t6_y (H : ShO h a S []) {j : Nat} (hj : j < S.flatten.length) : sX6_y E [aP (some a), aI (Int32.ofNat j)] h (kI fun r h' => r = (tAt S.flatten j).2 ∧ h' = h) := by
  have := s6_y (E := E) H (j := j) (by rw [List.append_nil]; exact hj)
  rw [List.append_nil] at this; exact this
theorem s6_lowest (H : ShO h a S []) (hne : S.flatten ≠ []) : sX6_lowestVertex E [aP (some a)] h (kI fun r h' => r = Int32.ofNat (lowT S.flatten) ∧ h' = h) := by
  obtain ⟨fs, h1, hf, hl⟩ := H.flat
  have hpos : 0 < S.flatten.length := List.length_pos_iff.mpr hne
  refine uX6_lowestVertex (fun m h' l0 l1 l2 => ∃ j b, m = S.flatten.length - j ∧ j < S.flatten.length ∧ b < S.flatten.length ∧ h' = h ∧ l0 = some a ∧ l1 = Int32.ofNat b ∧ l2 = Int32.ofNat (j + 1) ∧ b = (List.range j).foldl (lowStep S.flatten) 0) ?_ ?_
  · exact ⟨_, 0, 0, rfl, hpos, hpos, rfl, rfl, rfl, rfl, rfl⟩
  · rintro m h' l0 l1 l2 ⟨j, b, rfl, hj, hb, rfl, rfl, rfl, rfl, eb⟩
    unfold PX6_lowestVertex_4
    refine (rdI_iff h1).mpr ⟨_, hf, fun c => ?_, fun c => ?_⟩
    · have hjj : j = S.flatten.length - 1 := by have := (i32_le (by omega) (by omega)).mp c; omega
      subst hjj
      exact ⟨_, rfl, by rw [eb]; rfl, rfl⟩
    · have hjj : j + 1 < S.flatten.length := by have := mt (i32_le (i := S.flatten.length) (j := j + 1) (by omega) (by omega)).mpr c; omega
      rw [i32_s]
      have up : ∀ b', lowStep S.flatten b j = b' → b' < S.flatten.length → ∃ m', m' < S.flatten.length - j ∧ ∃ j2 b2, m' = S.flatten.length - j2 ∧ j2 < S.flatten.length ∧ b2 < S.flatten.length ∧ h' = h' ∧ some a = some a ∧ Int32.ofNat b' = Int32.ofNat b2 ∧ Int32.ofNat (j + 1 + 1) = Int32.ofNat (j2 + 1) ∧ b2 = (List.range j2).foldl (lowStep S.flatten) 0 := fun b' e1 e2 =>
        ⟨S.flatten.length - (j + 1), by omega, j + 1, b', rfl, hjj, e2, rfl, rfl, rfl, rfl, by rw [fold_succ, ← eb, e1]⟩
      refine cvI h1 (t6_y H hjj) (cvI h1 (t6_y H hb) ⟨fun c1 => ?_, fun c1 => cvI h1 (t6_y H hjj) (cvI h1 (t6_y H hb) ⟨fun c2 => ?_, fun c2 => cvI h1 (t6_x H hjj) (cvI h1 (t6_x H hb) ⟨fun c3 => ?_, fun c3 => ?_⟩)⟩)⟩)
      · unfold PX6_lowestVertex_51
        rw [i32_s]
        exact up (j + 1) (by unfold lowStep; rw [if_pos c1]) hjj
      · exact up b (by unfold lowStep; rw [if_neg c1, if_neg (fun q => c2 q.1)]) hb
      · exact up b (by unfold lowStep; rw [if_neg c1, if_neg (fun q => i32_not_lt.mpr c3 q.2)]) hb
      · unfold PX6_lowestVertex_51
        rw [i32_s]
        exact up (j + 1) (by unfold lowStep; rw [if_neg c1, if_pos ⟨c2, i32_not_le.mp c3⟩]) hjj
theorem s6_next (H : ShO h a S []) {v : Nat} (hv : v < S.flatten.length) : sX6_nextOnHull E [aP (some a), aI (Int32.ofNat v)] h (kI fun r h' => r = Int32.ofNat (nxT S.flatten v) ∧ h' = h) := by
  obtain ⟨fs, h1, hf, hl⟩ := H.flat
  refine uX6_nextOnHull (fun m h' l0 l1 l2 l3 => ∃ j b, m = S.flatten.length - j ∧ j ≤ S.flatten.length ∧ b < S.flatten.length ∧ h' = h ∧ l0 = some a ∧ l1 = Int32.ofNat v ∧ l2 = Int32.ofNat b ∧ l3 = Int32.ofNat j ∧ b = (List.range j).foldl (nxStep S.flatten v) v) ?_ ?_
  · exact ⟨_, 0, v, rfl, Nat.zero_le _, hv, rfl, rfl, rfl, rfl, rfl, rfl⟩
  · rintro m h' l0 l1 l2 l3 ⟨j, b, rfl, hj, hb, rfl, rfl, rfl, rfl, rfl, eb⟩
    unfold PX6_nextOnHull_4
    refine (rdI_iff h1).mpr ⟨_, hf, fun c => ?_, fun c => ?_⟩
    · have hjj : j = S.flatten.length := by have := (i32_le (by omega) (by omega)).mp c; omega
      subst hjj
      exact ⟨_, rfl, by rw [eb]; rfl, rfl⟩
    · have hjj : j < S.flatten.length := by have := mt (i32_le (i := S.flatten.length) (j := j) (by omega) (by omega)).mpr c; omega
      have up : ∀ b', nxStep S.flatten v b j = b' → b' < S.flatten.length → ∃ m', m' < S.flatten.length - j ∧ ∃ j2 b2, m' = S.flatten.length - j2 ∧ j2 ≤ S.flatten.length ∧ b2 < S.flatten.length ∧ h' = h' ∧ some a = some a ∧ Int32.ofNat v = Int32.ofNat v ∧ Int32.ofNat b' = Int32.ofNat b2 ∧ Int32.ofNat j + 1 = Int32.ofNat j2 ∧ b2 = (List.range j2).foldl (nxStep S.flatten v) v := fun b' e1 e2 =>
        ⟨S.flatten.length - (j + 1), by omega, j + 1, b', rfl, hjj, e2, rfl, rfl, rfl, rfl, i32_s j, by rw [fold_succ, ← eb, e1]⟩
      refine cvI h1 (t6_x H hb) (cvI h1 (t6_x H hv) fun v6 e6 => cvI h1 (t6_y H hb) (cvI h1 (t6_y H hv) fun v11 e11 => cvI h1 (t6_x H hjj) (cvI h1 (t6_x H hv) fun v16 e16 => cvI h1 (t6_y H hjj) (cvI h1 (t6_y H hv) fun v21 e21 v22 e22 => ?_))))
      have hT : v22 = nxTurn S.flatten v b j := by rw [e22, e6, e21, e11, e16]; rfl
      have hS1 : v16 * v16 + v21 * v21 = nxSq S.flatten v j := by rw [e16, e21]; rfl
      have hS2 : v6 * v6 + v11 * v11 = nxSq S.flatten v b := by rw [e6, e11]; rfl
      rw [hS1, hS2, hT]
      refine ⟨fun c1 => ?_, fun c1 => ?_⟩ <;> unfold PX6_nextOnHull_107 <;> refine ⟨fun c2 => ?_, fun c2 => ⟨fun c3 => ?_, fun c3 => ⟨fun c4 => ?_, fun c4 => ?_⟩⟩⟩
      · unfold PX6_nextOnHull_124
        exact up j (by unfold nxStep; rw [if_pos (Or.inl c2)]) hjj
      · exact up b (by unfold nxStep; rw [if_neg (fun q => q.elim c2 fun q => c3 q.1)]) hb
      · exact up b (by unfold nxStep; rw [if_neg (fun q => q.elim c2 fun q => i32_not_lt.mpr c1 q.2)]) hb
      · exact absurd rfl c4
      · unfold PX6_nextOnHull_124
        exact up j (by unfold nxStep; rw [if_pos (Or.inl c2)]) hjj
      · exact up b (by unfold nxStep; rw [if_neg (fun q => q.elim c2 fun q => c3 q.1)]) hb
      · exact absurd c4 (by decide)
      · unfold PX6_nextOnHull_124
        exact up j (by unfold nxStep; rw [if_pos (Or.inr ⟨c3, i32_not_le.mp c1⟩)]) hjj
theorem s5_setHull (H : ShO h a S []) (hne : S.flatten ≠ []) (P : PolyAt h p V) (d : p + 3 ≤ a ∨ a + 4 ≤ p) : sX5_setHull E [aP (some p), aP (some a)] h (kV fun h' => PolyAt h' p (hullP S.flatten) ∧ Fr p (p + 3) h h') := by
  have hlo := lowT_lt hne
  refine uX5_setHull (fun m h' l0 l1 l2 l3 l4 => ∃ t v D, m = t ∧ t ≤ 18 ∧ v < S.flatten.length ∧ l0 = some p ∧ l1 = some a ∧ l2 = Int32.ofNat (lowT S.flatten) ∧ l3 = Int32.ofNat v ∧ l4 = Int32.ofNat (18 - t) ∧ PolyAt h' p D ∧ D.length + t = 18 ∧ D ++ hullGo S.flatten (lowT S.flatten) t v = hullP S.flatten ∧ Fr p (p + 3) h h') ?_ ?_
  · unfold PX5_setHull_0
    obtain ⟨_, g1⟩ := P.ad
    refine cvVq g1 (s5_clear P) fun h2 q => ?_
    have H' := H.fr q.2 (by omega)
    obtain ⟨_, g2⟩ := H'.ad
    exact cvI g2 (s6_lowest H' hne) ⟨18, 18, _, [], rfl, Nat.le_refl _, hlo, rfl, rfl, rfl, rfl, rfl, q.1, rfl, rfl, q.2⟩
  · rintro m h' l0 l1 l2 l3 l4 ⟨t, v, D, rfl, ht, hv, rfl, rfl, rfl, rfl, rfl, P', hD, hgo, f⟩
    have H' := H.fr f (by omega)
    obtain ⟨_, g1⟩ := P'.ad
    obtain ⟨_, g2⟩ := H'.ad
    unfold PX5_setHull_14
    refine ⟨fun c => ?_, fun c => ?_⟩
    · have : 18 ≤ 18 - m := (i32_le (i := 18) (by omega) (by omega)).mp c
      have : m = 0 := by omega
      subst this
      rw [show hullGo S.flatten (lowT S.flatten) 0 v = [] from rfl, List.append_nil] at hgo
      exact ⟨rfl, hgo ▸ P', f⟩
    · have hm : ¬ 18 ≤ 18 - m := fun q => c ((i32_le (i := 18) (j := 18 - m) (by omega) (by omega)).mpr q)
      obtain ⟨t, rfl⟩ : ∃ t, m = t + 1 := ⟨m - 1, by omega⟩
      rw [hullGo_succ] at hgo
      refine cvI g2 (t6_x H' hv) (cvI g2 (t6_y H' hv) (cvVq g1 (s5_add P' (by omega) _ _) fun h2 q => ?_))
      have H2 := H'.fr q.2 (by omega)
      obtain ⟨_, g3⟩ := H2.ad
      have hn := nxT_lt hv
      have step : tAt S.flatten (nxT S.flatten v) ≠ tAt S.flatten (lowT S.flatten) → ∃ m', m' < t + 1 ∧ ∃ t2 v2 D, m' = t2 ∧ t2 ≤ 18 ∧ v2 < S.flatten.length ∧ some p = some p ∧ some a = some a ∧ Int32.ofNat (lowT S.flatten) = Int32.ofNat (lowT S.flatten) ∧ Int32.ofNat (nxT S.flatten v) = Int32.ofNat v2 ∧ Int32.ofNat (18 - (t + 1)) + 1 = Int32.ofNat (18 - t2) ∧ PolyAt h2 p D ∧ D.length + t2 = 18 ∧ D ++ hullGo S.flatten (lowT S.flatten) t2 v2 = hullP S.flatten ∧ Fr p (p + 3) h h2 := fun cc => by
        rw [if_neg cc] at hgo
        exact ⟨t, by omega, t, _, _, rfl, by omega, hn, rfl, rfl, rfl, rfl, by rw [i32_s]; congr 1; omega, q.1, by simp; omega, by rw [← hgo]; simp, f.trans q.2⟩
      refine cvI g3 (s6_next H2 hv) (cvI g3 (t6_x H2 hn) (cvI g3 (t6_x H2 hlo) ⟨fun c1 => step fun e => c1 (by rw [e]), fun c1 => cvI g3 (t6_y H2 hn) (cvI g3 (t6_y H2 hlo) ⟨fun c2 => step fun e => c2 (by rw [e]), fun c2 => ⟨rfl, ?_, f.trans q.2⟩⟩)⟩))
      rw [if_pos (Prod.ext c1 c2)] at hgo
      exact hgo ▸ q.1
end HU
