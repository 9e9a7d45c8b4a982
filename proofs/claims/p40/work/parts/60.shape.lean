/-! shapes: the pieces, each its points; and the points of a piece that is being written -/
def ShO (h : AH) (a : Nat) (S : List (List PT)) (W : List PT) : Prop := ∃ (l b r t : Int32) (st xs ys : List Int32),
  h[a]? = some (.inr (6, [aP (some (a + 1)), aP (some (a + 2)), aP (some (a + 3)), aI (Int32.ofNat S.length), aI (Int32.ofNat (S.flatten ++ W).length), aI l, aI b, aI r, aI t])) ∧ (h[a + 1]? = some (.inl (0, st)) ∧ st.length = 4) ∧ (h[a + 2]? = some (.inl (0, xs)) ∧ xs.length = 18) ∧ (h[a + 3]? = some (.inl (0, ys)) ∧ ys.length = 18) ∧ S.length ≤ 3 ∧ (S.flatten ++ W).length ≤ 18 ∧ (∀ k, k ≤ S.length → st.getD k 0 = Int32.ofNat (S.take k).flatten.length) ∧ (∀ j, j < (S.flatten ++ W).length → (xs.getD j 0, ys.getD j 0) = (S.flatten ++ W).getD j (0, 0)) ∧ (S.flatten ++ W ≠ [] → (l, b, r, t) = (pfold (S.flatten ++ W)).2.2.2)
abbrev ShAt (h : AH) (a : Nat) (S : List (List PT)) : Prop := ShO h a S []
theorem ShO.fr {h h' : AH} {a lo hi : Nat} {S : List (List PT)} {W : List PT} (H : ShO h a S W) (f : Fr lo hi h h') (d : a + 4 ≤ lo ∨ hi ≤ a) : ShO h' a S W := by
  obtain ⟨l, b, r, t, st, xs, ys, h1, h2, h3, h4, h5⟩ := H
  exact ⟨l, b, r, t, st, xs, ys, (f.2 _ (by omega)).trans h1, ⟨(f.2 _ (by omega)).trans h2.1, h2.2⟩, ⟨(f.2 _ (by omega)).trans h3.1, h3.2⟩, ⟨(f.2 _ (by omega)).trans h4.1, h4.2⟩, h5⟩
theorem ShO.ad {h : AH} {a : Nat} {S : List (List PT)} {W : List PT} (H : ShO h a S W) : ∃ fs, h[a]? = some (.inr (6, fs)) := by
  obtain ⟨_, _, _, _, _, _, _, h1, -⟩ := H
  exact ⟨_, h1⟩
theorem ShO.lens {h : AH} {a : Nat} {S : List (List PT)} {W : List PT} (H : ShO h a S W) : S.length ≤ 3 ∧ (S.flatten ++ W).length ≤ 18 := by
  obtain ⟨_, _, _, _, _, _, _, -, -, -, -, h5, h6, -⟩ := H
  exact ⟨h5, h6⟩
theorem PolyAt.ad {h : AH} {a : Nat} {V : List PT} (H : PolyAt h a V) : ∃ fs, h[a]? = some (.inr (5, fs)) := by
  obtain ⟨_, _, _, _, _, _, _, h1, -⟩ := H
  exact ⟨_, h1⟩
theorem take_fl {S : List (List PT)} {i : Nat} (hi : i < S.length) : (S.take (i + 1)).flatten.length = (S.take i).flatten.length + (S.getD i []).length := by
  rw [List.take_add_one, List.flatten_append, List.length_append, List.getD_eq_getElem?_getD, List.getElem?_eq_getElem hi]
  simp
theorem fl_getD {S : List (List PT)} {W : List PT} : ∀ {i : Nat}, i < S.length → ∀ {j : Nat}, j < (S.getD i []).length → (S.flatten ++ W).getD ((S.take i).flatten.length + j) (0, 0) = (S.getD i []).getD j (0, 0) := by
  induction S with
  | nil => intro i hi; simp at hi
  | cons V S ih =>
    intro i hi j hj
    cases i with
    | zero =>
      simp at hj
      simp [List.getD_eq_getElem?_getD, List.getElem?_append_left hj]
    | succ i =>
      have hj' : j < (S.getD i []).length := by simpa using hj
      have := ih (i := i) (by simpa using hi) hj'
      rw [List.take_succ_cons, List.flatten_cons, List.flatten_cons, List.length_append, List.append_assoc]
      rw [List.getD_eq_getElem?_getD, List.getElem?_append_right (by omega), ← List.getD_eq_getElem?_getD]
      rw [show V.length + (S.take i).flatten.length + j - V.length = (S.take i).flatten.length + j by omega, this]
      simp
theorem fl_lt {S : List (List PT)} {i : Nat} (hi : i < S.length) {j : Nat} (hj : j < (S.getD i []).length) : (S.take i).flatten.length + j < S.flatten.length := by
  have h1 := take_fl hi
  have h2 : (S.take (i + 1)).flatten.length ≤ S.flatten.length := by
    have := List.take_append_drop (i + 1) S
    calc (S.take (i + 1)).flatten.length ≤ ((S.take (i + 1)).flatten ++ (S.drop (i + 1)).flatten).length := by simp
      _ = S.flatten.length := by rw [← List.flatten_append, this]
  omega
def trX (t x y : Int32) : Int32 := if t.toInt = 0 then x else if t.toInt = 1 then -y else if t.toInt = 2 then -x else y
def trP (t : Int32) (v : PT) : PT := (trX t v.1 v.2, trX t v.2 (-v.1))
def rotP (V : List PT) : List PT := (List.range V.length).map (vAt V)
def reachP (T : List PT) (dx dy : Int32) : Int32 := (List.range (T.length - 1)).foldl (fun m k => (fun v : Int32 => if m < v then v else m) ((T.getD (k + 1) (0, 0)).1 * dx + (T.getD (k + 1) (0, 0)).2 * dy)) ((T.getD 0 (0, 0)).1 * dx + (T.getD 0 (0, 0)).2 * dy)
section SH
variable {E : EV} {h : AH} {a p q : Nat} {S : List (List PT)} {W V : List PT}
theorem s6_x (H : ShO h a S W) {j : Nat} (hj : j < (S.flatten ++ W).length) : sX6_x E [aP (some a), aI (Int32.ofNat j)] h (kI fun r h' => r = ((S.flatten ++ W).getD j (0, 0)).1 ∧ h' = h) := by
  obtain ⟨l, b, r, t, st, xs, ys, h1, h2, h3, h4, h5, h6, h7, h8, h9⟩ := H
  refine eX6_x ?_
  unfold PX6_x_0
  refine ⟨fun c => absurd c (i32_nn (by omega)), fun _ => (rdP_iff h1).mpr ⟨_, rfl, (alenI_iff h3.1).mpr ?_⟩⟩
  rw [h3.2]
  exact ⟨fun c => absurd ((i32_le (by omega) (by omega)).mp c) (by omega), fun _ => (rdP_iff h1).mpr ⟨_, rfl, aldI_of h3.1 (i32_nn (by omega)) (by rw [i32_n (by omega)]; exact getD_get (by omega)) ⟨_, rfl, congrArg Prod.fst (h8 j hj), rfl⟩⟩⟩
theorem s6_y (H : ShO h a S W) {j : Nat} (hj : j < (S.flatten ++ W).length) : sX6_y E [aP (some a), aI (Int32.ofNat j)] h (kI fun r h' => r = ((S.flatten ++ W).getD j (0, 0)).2 ∧ h' = h) := by
  obtain ⟨l, b, r, t, st, xs, ys, h1, h2, h3, h4, h5, h6, h7, h8, h9⟩ := H
  refine eX6_y ?_
  unfold PX6_y_0
  refine ⟨fun c => absurd c (i32_nn (by omega)), fun _ => (rdP_iff h1).mpr ⟨_, rfl, (alenI_iff h4.1).mpr ?_⟩⟩
  rw [h4.2]
  exact ⟨fun c => absurd ((i32_le (by omega) (by omega)).mp c) (by omega), fun _ => (rdP_iff h1).mpr ⟨_, rfl, aldI_of h4.1 (i32_nn (by omega)) (by rw [i32_n (by omega)]; exact getD_get (by omega)) ⟨_, rfl, congrArg Prod.snd (h8 j hj), rfl⟩⟩⟩
theorem s6_start (H : ShO h a S W) {k : Nat} (hk : k ≤ S.length) : sX6_start E [aP (some a), aI (Int32.ofNat k)] h (kI fun r h' => r = Int32.ofNat (S.take k).flatten.length ∧ h' = h) := by
  obtain ⟨l, b, r, t, st, xs, ys, h1, h2, h3, h4, h5, h6, h7, h8, h9⟩ := H
  refine eX6_start ?_
  unfold PX6_start_0
  refine ⟨fun c => absurd c (i32_nn (by omega)), fun _ => (rdP_iff h1).mpr ⟨_, rfl, (alenI_iff h2.1).mpr ?_⟩⟩
  rw [h2.2]
  exact ⟨fun c => absurd ((i32_le (by omega) (by omega)).mp c) (by omega), fun _ => (rdP_iff h1).mpr ⟨_, rfl, aldI_of h2.1 (i32_nn (by omega)) (by rw [i32_n (by omega)]; exact getD_get (by omega)) ⟨_, rfl, h7 k hk, rfl⟩⟩⟩
theorem s6_isEmpty (H : ShO h a S W) : sX6_isEmpty E [aP (some a)] h (kI fun r h' => r = (if S = [] then 1 else 0) ∧ h' = h) := by
  obtain ⟨l, b, r, t, st, xs, ys, h1, h2, h3, h4, h5, -⟩ := H
  refine eX6_isEmpty ?_
  unfold PX6_isEmpty_0
  refine (rdI_iff h1).mpr ⟨_, rfl, fun c => ⟨_, rfl, ?_, rfl⟩, fun c => ⟨_, rfl, ?_, rfl⟩⟩
  · rw [if_neg]
    intro q
    exact c (by rw [q]; rfl)
  · rw [if_pos]
    have := i32_inj (m := S.length) (n := 0) (by omega) (by omega) c
    exact List.eq_nil_of_length_eq_zero this
theorem s6_clear (H : ShO h a S W) : sX6_clear E [aP (some a)] h (kV fun h' => ShAt h' a [] ∧ Fr a (a + 4) h h') := by
  obtain ⟨l, b, r, t, st, xs, ys, h1, h2, h3, h4, h5, h6, h7, h8, h9⟩ := H
  refine eX6_clear ?_
  unfold PX6_clear_0
  refine (wr_iff h1).mpr ⟨Nat.le_of_ble_eq_true rfl, (wr_iff (gs h1)).mpr ⟨Nat.le_of_ble_eq_true rfl, rfl, ⟨l, b, r, t, st, xs, ys, gs (gs h1), ⟨gsn (by omega) (gsn (by omega) h2.1), h2.2⟩, ⟨gsn (by omega) (gsn (by omega) h3.1), h3.2⟩, ⟨gsn (by omega) (gsn (by omega) h4.1), h4.2⟩, by simp, by simp, fun k hk => ?_, fun j hj => by simp at hj, fun c => absurd rfl c⟩, (Fr.set (Nat.le_refl a) (by omega)).trans (Fr.set (Nat.le_refl a) (by omega))⟩⟩
  have : k = 0 := by simpa using hk
  subst this
  have := h7 0 (by omega)
  simpa using this
theorem s6_turnedX (t x y : Int32) : sX6_turnedX E [aI x, aI y, aI t] h (kI fun r h' => r = trX t x y ∧ h' = h) := by
  refine eX6_turnedX ?_
  unfold PX6_turnedX_0
  refine ⟨fun c => ⟨_, rfl, ?_, rfl⟩, fun c => ⟨_, rfl, ?_, rfl⟩, fun c => ⟨_, rfl, ?_, rfl⟩, fun c => ⟨_, rfl, ?_, rfl⟩⟩ <;> unfold trX
  · rw [if_neg (by omega), if_neg (by omega), if_neg (by omega)]
  · rw [if_pos c]
  · rw [if_neg (by omega), if_pos c]
  · rw [if_neg (by omega), if_neg (by omega), if_pos c]
theorem s6_turnedY (t x y : Int32) : sX6_turnedY E [aI x, aI y, aI t] h (kI fun r h' => r = trX t y (-x) ∧ h' = h) := by
  refine eX6_turnedY ?_
  unfold PX6_turnedY_0
  exact csI (s6_turnedX t y (-x)) ⟨_, rfl, rfl, rfl⟩
theorem s6_endPiece (H : ShO h a S W) (h3 : S.length < 3) : sX6_endPiece E [aP (some a)] h (kV fun h' => ShAt h' a (S ++ [W]) ∧ Fr a (a + 4) h h') := by
  obtain ⟨l, b, r, t, st, xs, ys, h1, h2, h3', h4, h5, h6, h7, h8, h9⟩ := H
  refine eX6_endPiece ?_
  unfold PX6_endPiece_0
  refine (rdI_iff h1).mpr ⟨_, rfl, fun c => absurd c (i32_nn (by omega)), fun _ => (rdI_iff h1).mpr ⟨_, rfl, (rdP_iff h1).mpr ⟨_, rfl, (alenI_iff h2.1).mpr ?_⟩⟩⟩
  rw [h2.2]
  refine ⟨fun c => absurd ((i32_le (i := 3) (by omega) (by omega)).mp c) (by omega), fun _ => (rdI_iff h1).mpr ⟨_, rfl, (wr_iff h1).mpr ⟨Nat.le_of_ble_eq_true rfl, (rdP_iff (gs h1)).mpr ⟨_, rfl, (rdI_iff (gs h1)).mpr ⟨_, rfl, (rdI_iff (gs h1)).mpr ⟨_, rfl, ⟨_, _, rfl, gsn (by omega) h2.1, ?_, ?_, rfl, ?_, (Fr.set (Nat.le_refl a) (by omega)).trans (Fr.set (by omega) (by omega))⟩⟩⟩⟩⟩⟩⟩
  · rw [i32_s]; exact i32_nn (by omega)
  · rw [i32_s, i32_n (by omega), h2.2]; omega
  · rw [i32_s, i32_n (by omega)]
    have e1 : (S ++ [W]).flatten ++ [] = S.flatten ++ W := by simp
    have e2 : (S ++ [W]).length = S.length + 1 := by simp
    refine ⟨l, b, r, t, _, xs, ys, by rw [e1, e2]; exact gsn (by omega) (gs h1), ⟨gs (gsn (by omega) h2.1), by rw [List.length_set]; exact h2.2⟩, ⟨gsn (by omega) (gsn (by omega) h3'.1), h3'.2⟩, ⟨gsn (by omega) (gsn (by omega) h4.1), h4.2⟩, by omega, by rw [e1]; exact h6, fun k hk => ?_, by rw [e1]; exact h8, by rw [e1]; exact h9⟩
    rw [getD_set, h2.2]
    by_cases c : S.length + 1 = k
    · subst c
      rw [if_pos ⟨rfl, by omega⟩, List.take_of_length_le (by omega)]
      simp
    · rw [if_neg (fun q => c q.1), h7 k (by omega), List.take_append_of_le_length (by omega)]
end SH
