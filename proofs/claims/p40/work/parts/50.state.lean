/-! frames; the class's State: its picture, its methods -/
def Fr (lo hi : Nat) (h h' : AH) : Prop := h'.length = h.length ∧ ∀ q, q < lo ∨ hi ≤ q → h'[q]? = h[q]?
theorem Fr.refl {lo hi : Nat} {h : AH} : Fr lo hi h h := ⟨rfl, fun _ _ => rfl⟩
theorem Fr.trans {lo hi : Nat} {h h1 h2 : AH} (f : Fr lo hi h h1) (g : Fr lo hi h1 h2) : Fr lo hi h h2 := ⟨g.1.trans f.1, fun q hq => (g.2 q hq).trans (f.2 q hq)⟩
theorem Fr.weak {lo hi lo' hi' : Nat} {h h1 : AH} (f : Fr lo hi h h1) (h1' : lo' ≤ lo) (h2' : hi ≤ hi') : Fr lo' hi' h h1 := ⟨f.1, fun q hq => f.2 q (by omega)⟩
theorem Fr.set {lo hi a : Nat} {h : AH} {x : AE} (h1 : lo ≤ a) (h2 : a < hi) : Fr lo hi h (h.set a x) := ⟨List.length_set .., fun q hq => List.getElem?_set_ne (by omega)⟩
theorem gs {h : AH} {a : Nat} {x y : AE} (H : h[a]? = some y) : (h.set a x)[a]? = some x := List.getElem?_set_self (List.getElem?_eq_some_iff.mp H).1
theorem gsn {h : AH} {a b : Nat} {x : AE} {y : Option AE} (hne : a ≠ b) (H : h[b]? = y) : (h.set a x)[b]? = y := (List.getElem?_set_ne hne).trans H
def rfs (l : List Nat) : List AV := l.map fun a => aP (some a)
theorem rfs_len {l : List Nat} : (rfs l).length = l.length := List.length_map ..
theorem rfs_get {l : List Nat} {j : Nat} (h : j < l.length) : (rfs l)[j]? = some (aP (some (l.getD j 0))) := by
  simp [rfs, List.getElem?_map, List.getElem?_eq_getElem h, List.getD_eq_getElem?_getD]
theorem rfs_set {l : List Nat} {j b : Nat} : (rfs l).set j (aP (some b)) = rfs (l.set j b) := by simp [rfs, List.map_set]
def IsSh (h : AH) (q : Nat) : Prop := ∃ us, h[q]? = some (.inr (6, us))
def St (h : AH) (a e : Nat) (sl sh : List Nat) (xs ys : List Int32) (cnt w hh cl : Int32) : Prop :=
  h[a]? = some (.inr (8, [aP (some e), aP (some (a + 1)), aP (some (a + 2)), aP (some (a + 3)), aP (some (a + 4)), aI cnt, aI w, aI hh, aI cl])) ∧ (h[a + 1]? = some (.inr (13, rfs sl)) ∧ sl.length = 4) ∧ (h[a + 2]? = some (.inr (13, rfs sh)) ∧ sh.length = 8) ∧ (h[a + 3]? = some (.inl (0, xs)) ∧ xs.length = 8) ∧ (h[a + 4]? = some (.inl (0, ys)) ∧ ys.length = 8)
theorem St.fr {h h' : AH} {a e lo hi : Nat} {sl sh : List Nat} {xs ys : List Int32} {cnt w hh cl : Int32} (H : St h a e sl sh xs ys cnt w hh cl) (f : Fr lo hi h h') (d : a + 5 ≤ lo ∨ hi ≤ a) : St h' a e sl sh xs ys cnt w hh cl := by
  obtain ⟨h1, ⟨h2, l2⟩, ⟨h3, l3⟩, ⟨h4, l4⟩, ⟨h5, l5⟩⟩ := H
  exact ⟨(f.2 _ (by omega)).trans h1, ⟨(f.2 _ (by omega)).trans h2, l2⟩, ⟨(f.2 _ (by omega)).trans h3, l3⟩, ⟨(f.2 _ (by omega)).trans h4, l4⟩, ⟨(f.2 _ (by omega)).trans h5, l5⟩⟩
theorem IsSh.fr {h h' : AH} {q lo hi : Nat} (H : IsSh h q) (f : Fr lo hi h h') (d : q < lo ∨ hi ≤ q) : IsSh h' q := by
  obtain ⟨us, hu⟩ := H
  exact ⟨us, (f.2 q d).trans hu⟩
/-- a shape is none of the cells of a state -/
theorem St.off {h : AH} {a e q : Nat} {sl sh : List Nat} {xs ys : List Int32} {cnt w hh cl : Int32} (H : St h a e sl sh xs ys cnt w hh cl) (s : IsSh h q) : q < a ∨ a + 5 ≤ q := by
  obtain ⟨h1, ⟨h2, l2⟩, ⟨h3, l3⟩, ⟨h4, l4⟩, ⟨h5, l5⟩⟩ := H
  obtain ⟨us, hu⟩ := s
  by_cases c : q < a ∨ a + 5 ≤ q
  · exact c
  · have : q = a ∨ q = a + 1 ∨ q = a + 2 ∨ q = a + 3 ∨ q = a + 4 := by omega
    rcases this with rfl | rfl | rfl | rfl | rfl
    · rw [h1] at hu; cases hu
    · rw [h2] at hu; cases hu
    · rw [h3] at hu; cases hu
    · rw [h4] at hu; cases hu
    · rw [h5] at hu; cases hu
section ST
variable {E : EV} {h : AH} {a e : Nat} {sl sh : List Nat} {xs ys : List Int32} {cnt w hh cl : Int32}
theorem s8_slot (H : St h a e sl sh xs ys cnt w hh cl) {j : Nat} (hj : j < 4) : sX8_slot E [aP (some a), aI (Int32.ofNat j)] h (kP fun r h' => r = some (sl.getD j 0) ∧ h' = h) := by
  obtain ⟨h1, ⟨h2, l2⟩, -⟩ := H
  refine eX8_slot ?_
  unfold PX8_slot_0
  refine ⟨fun c => absurd c (i32_nn (by omega)), fun _ => (rdP_iff h1).mpr ⟨_, rfl, (alenP_iff h2).mpr ?_⟩⟩
  rw [rfs_len, l2]
  refine ⟨fun c => absurd ((i32_le (by omega) (by omega)).mp c) (by omega), fun _ => (rdP_iff h1).mpr ⟨_, rfl, aldP_of h2 (i32_nn (by omega)) (by rw [i32_n (by omega)]; exact rfs_get (by omega)) ?_⟩⟩
  unfold PX8_slot_23
  exact ⟨fun _ => ⟨_, rfl, rfl, rfl⟩, fun c => by cases c⟩
theorem s8_shape (H : St h a e sl sh xs ys cnt w hh cl) {j : Nat} (hj : j < 8) : sX8_shape E [aP (some a), aI (Int32.ofNat j)] h (kP fun r h' => r = some (sh.getD j 0) ∧ h' = h) := by
  obtain ⟨h1, -, ⟨h2, l2⟩, -⟩ := H
  refine eX8_shape ?_
  unfold PX8_shape_0
  refine ⟨fun c => absurd c (i32_nn (by omega)), fun _ => (rdP_iff h1).mpr ⟨_, rfl, (alenP_iff h2).mpr ?_⟩⟩
  rw [rfs_len, l2]
  refine ⟨fun c => absurd ((i32_le (by omega) (by omega)).mp c) (by omega), fun _ => (rdP_iff h1).mpr ⟨_, rfl, aldP_of h2 (i32_nn (by omega)) (by rw [i32_n (by omega)]; exact rfs_get (by omega)) ?_⟩⟩
  unfold PX8_shape_23
  exact ⟨fun _ => ⟨_, rfl, rfl, rfl⟩, fun c => by cases c⟩
theorem getD_get {xs : List Int32} {j : Nat} (h : j < xs.length) : xs[j]? = some (xs.getD j 0) := by
  simp [List.getElem?_eq_getElem h, List.getD_eq_getElem?_getD]
theorem s8_x (H : St h a e sl sh xs ys cnt w hh cl) {j : Nat} (hj : j < 8) : sX8_x E [aP (some a), aI (Int32.ofNat j)] h (kI fun r h' => r = xs.getD j 0 ∧ h' = h) := by
  obtain ⟨h1, -, -, ⟨h2, l2⟩, -⟩ := H
  refine eX8_x ?_
  unfold PX8_x_0
  refine ⟨fun c => absurd c (i32_nn (by omega)), fun _ => (rdP_iff h1).mpr ⟨_, rfl, (alenI_iff h2).mpr ?_⟩⟩
  rw [l2]
  exact ⟨fun c => absurd ((i32_le (by omega) (by omega)).mp c) (by omega), fun _ => (rdP_iff h1).mpr ⟨_, rfl, aldI_of h2 (i32_nn (by omega)) (by rw [i32_n (by omega)]; exact getD_get (by omega)) ⟨_, rfl, rfl, rfl⟩⟩⟩
theorem s8_y (H : St h a e sl sh xs ys cnt w hh cl) {j : Nat} (hj : j < 8) : sX8_y E [aP (some a), aI (Int32.ofNat j)] h (kI fun r h' => r = ys.getD j 0 ∧ h' = h) := by
  obtain ⟨h1, -, -, -, ⟨h2, l2⟩⟩ := H
  refine eX8_y ?_
  unfold PX8_y_0
  refine ⟨fun c => absurd c (i32_nn (by omega)), fun _ => (rdP_iff h1).mpr ⟨_, rfl, (alenI_iff h2).mpr ?_⟩⟩
  rw [l2]
  exact ⟨fun c => absurd ((i32_le (by omega) (by omega)).mp c) (by omega), fun _ => (rdP_iff h1).mpr ⟨_, rfl, aldI_of h2 (i32_nn (by omega)) (by rw [i32_n (by omega)]; exact getD_get (by omega)) ⟨_, rfl, rfl, rfl⟩⟩⟩
theorem s8_setPlace (H : St h a e sl sh xs ys cnt w hh cl) {j : Nat} (hj : j < 8) (x y : Int32) : sX8_setPlace E [aP (some a), aI (Int32.ofNat j), aI x, aI y] h (kV fun h' => St h' a e sl sh (xs.set j x) (ys.set j y) cnt w hh cl ∧ Fr a (a + 5) h h') := by
  obtain ⟨h1, h2, h3, ⟨h4, l4⟩, ⟨h5, l5⟩⟩ := H
  refine eX8_setPlace ?_
  unfold PX8_setPlace_0
  refine ⟨fun c => absurd c (i32_nn (by omega)), fun _ => (rdP_iff h1).mpr ⟨_, rfl, (alenI_iff h4).mpr ?_⟩⟩
  rw [l4]
  refine ⟨fun c => absurd ((i32_le (by omega) (by omega)).mp c) (by omega), fun _ => (rdP_iff h1).mpr ⟨_, rfl, (alenI_iff h5).mpr ?_⟩⟩
  rw [l5]
  refine ⟨fun c => absurd ((i32_le (by omega) (by omega)).mp c) (by omega), fun _ => (rdP_iff h1).mpr ⟨_, rfl, ⟨_, _, rfl, h4, i32_nn (by omega), by rw [i32_n (by omega), l4]; exact hj, ?_⟩⟩⟩
  refine (rdP_iff (gsn (by omega) h1)).mpr ⟨_, rfl, ⟨_, _, rfl, gsn (by omega) h5, i32_nn (by omega), by rw [i32_n (by omega), l5]; exact hj, ?_⟩⟩
  rw [i32_n (by omega)]
  refine ⟨rfl, ⟨gsn (by omega) (gsn (by omega) h1), ⟨gsn (by omega) (gsn (by omega) h2.1), h2.2⟩, ⟨gsn (by omega) (gsn (by omega) h3.1), h3.2⟩, ⟨gsn (by omega) (gs h4), by rw [List.length_set]; exact l4⟩, ⟨gs (gsn (by omega) h5), by rw [List.length_set]; exact l5⟩⟩, (Fr.set (by omega) (by omega)).trans (Fr.set (by omega) (by omega))⟩
theorem s8_setItem (H : St h a e sl sh xs ys cnt w hh cl) {j b : Nat} (hj : j < 8) (hb : IsSh h b) (x y : Int32) : sX8_setItem E [aP (some a), aI (Int32.ofNat j), aP (some b), aI x, aI y] h (kV fun h' => St h' a e sl (sh.set j b) (xs.set j x) (ys.set j y) cnt w hh cl ∧ Fr a (a + 5) h h') := by
  have H0 := H
  obtain ⟨h1, h2, ⟨h3, l3⟩, h4, h5⟩ := H
  obtain ⟨us, hu⟩ := hb
  refine eX8_setItem ?_
  unfold PX8_setItem_0
  refine ⟨fun c => absurd c (i32_nn (by omega)), fun _ => (rdP_iff h1).mpr ⟨_, rfl, (alenP_iff h3).mpr ?_⟩⟩
  rw [rfs_len, l3]
  refine ⟨fun c => absurd ((i32_le (by omega) (by omega)).mp c) (by omega), fun _ => (rdP_iff h1).mpr ⟨_, rfl, astP_of h3 hu (i32_nn (by omega)) (by rw [i32_n (by omega), rfs_len, l3]; exact hj) ?_⟩⟩
  rw [i32_n (by omega), rfs_set]
  have H2 : St (h.set (a + 2) (.inr (13, rfs (sh.set j b)))) a e sl (sh.set j b) xs ys cnt w hh cl := ⟨gsn (by omega) h1, ⟨gsn (by omega) h2.1, h2.2⟩, ⟨gs h3, by rw [List.length_set]; exact l3⟩, ⟨gsn (by omega) h4.1, h4.2⟩, ⟨gsn (by omega) h5.1, h5.2⟩⟩
  exact cvVq H2.1 (s8_setPlace H2 hj x y) fun h' q => ⟨rfl, q.1, (Fr.set (by omega) (by omega)).trans q.2⟩
theorem s8_setSlot (H : St h a e sl sh xs ys cnt w hh cl) {j b : Nat} (hj : j < 4) (hb : IsSh h b) : sX8_setSlot E [aP (some a), aI (Int32.ofNat j), aP (some b)] h (kV fun h' => St h' a e (sl.set j b) sh xs ys cnt w hh cl ∧ Fr a (a + 5) h h') := by
  obtain ⟨h1, ⟨h2, l2⟩, h3, h4, h5⟩ := H
  obtain ⟨us, hu⟩ := hb
  refine eX8_setSlot ?_
  unfold PX8_setSlot_0
  refine ⟨fun c => absurd c (i32_nn (by omega)), fun _ => (rdP_iff h1).mpr ⟨_, rfl, (alenP_iff h2).mpr ?_⟩⟩
  rw [rfs_len, l2]
  refine ⟨fun c => absurd ((i32_le (by omega) (by omega)).mp c) (by omega), fun _ => (rdP_iff h1).mpr ⟨_, rfl, astP_of h2 hu (i32_nn (by omega)) (by rw [i32_n (by omega), rfs_len, l2]; exact hj) ?_⟩⟩
  rw [i32_n (by omega), rfs_set]
  exact ⟨rfl, ⟨gsn (by omega) h1, ⟨gs h2, by rw [List.length_set]; exact l2⟩, ⟨gsn (by omega) h3.1, h3.2⟩, ⟨gsn (by omega) h4.1, h4.2⟩, ⟨gsn (by omega) h5.1, h5.2⟩⟩, Fr.set (by omega) (by omega)⟩
end ST
