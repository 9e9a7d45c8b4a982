/-! the hull of the reference: points, the next corner, corners -/
def rFar (T : List PT) (v e : Nat) : Int32 := szI ((tAt T e).1 - (tAt T v).1) + szI ((tAt T e).2 - (tAt T v).2)
def nrStep (T : List PT) (v b e : Nat) : Nat := if rFar T v b = 0 ∨ nxTurn T v b e < 0 ∨ nxTurn T v b e = 0 ∧ rFar T v b < rFar T v e then e else b
def nrT (T : List PT) (v : Nat) : Nat := (List.range T.length).foldl (nrStep T v) v
def hrI (T : List PT) : Nat → Nat
  | 0 => lowT T
  | i + 1 => nrT T (hrI T i)
theorem hrI_succ {T : List PT} {i : Nat} : hrI T (i + 1) = nrT T (hrI T i) := rfl
def HuE (T : List PT) (m : Nat) : Prop := 1 ≤ m ∧ m ≤ 36 ∧ tAt T (hrI T m) = tAt T (lowT T) ∧ ∀ i, 0 < i → i < m → tAt T (hrI T i) ≠ tAt T (lowT T)
def hrP (T : List PT) (m : Nat) : List PT := (List.range m).map fun i => tAt T (hrI T i)
theorem nr_lt {T : List PT} {v j b : Nat} (hb : b < T.length) (hj : j ≤ T.length) : (List.range j).foldl (nrStep T v) b < T.length := by
  induction j with
  | zero => exact hb
  | succ j ih =>
    rw [fold_succ]
    have i1 := ih (by omega)
    have i2 : ∀ b k, nrStep T v b k = k ∨ nrStep T v b k = b := fun b k => by
      unfold nrStep
      split
      · exact Or.inl rfl
      · exact Or.inr rfl
    rcases i2 ((List.range j).foldl (nrStep T v) b) j with q | q <;> omega
theorem nrT_lt {T : List PT} {v : Nat} (hv : v < T.length) : nrT T v < T.length := nr_lt hv (Nat.le_refl _)
theorem hrI_lt {T : List PT} (h : T ≠ []) {i : Nat} : hrI T i < T.length := by
  induction i with
  | zero => exact lowT_lt h
  | succ i ih => exact nrT_lt ih
def PtO (h : AH) (T : List PT) : Prop := ∃ vx vy, (h[317]? = some (.inl (0, vx)) ∧ vx.length = 36) ∧ (h[318]? = some (.inl (0, vy)) ∧ vy.length = 36) ∧ T.length ≤ 36 ∧ ∀ j, j < T.length → (vx.getD j 0, vy.getD j 0) = T.getD j (0, 0)
def CoO (h : AH) (C : List PT) : Prop := ∃ vx vy, (h[319]? = some (.inl (0, vx)) ∧ vx.length = 37) ∧ (h[320]? = some (.inl (0, vy)) ∧ vy.length = 37) ∧ C.length ≤ 37 ∧ ∀ j, j < C.length → (vx.getD j 0, vy.getD j 0) = C.getD j (0, 0)
theorem PtO.fr {h h' : AH} {T : List PT} {lo hi : Nat} (H : PtO h T) (f : Fr lo hi h h') (d : 319 ≤ lo ∨ hi ≤ 317) : PtO h' T := by
  obtain ⟨vx, vy, h1, h2, h3⟩ := H
  exact ⟨vx, vy, ⟨(f.2 _ (by omega)).trans h1.1, h1.2⟩, ⟨(f.2 _ (by omega)).trans h2.1, h2.2⟩, h3⟩
theorem CoO.fr {h h' : AH} {T : List PT} {lo hi : Nat} (H : CoO h T) (f : Fr lo hi h h') (d : 321 ≤ lo ∨ hi ≤ 319) : CoO h' T := by
  obtain ⟨vx, vy, h1, h2, h3⟩ := H
  exact ⟨vx, vy, ⟨(f.2 _ (by omega)).trans h1.1, h1.2⟩, ⟨(f.2 _ (by omega)).trans h2.1, h2.2⟩, h3⟩
abbrev zPt (z : Sc) (n : Int32) : Sc := zU z ((zT z).1, (zT z).2.1, n, (zT z).2.2.2)
abbrev zCo (z : Sc) (n : Int32) : Sc := zU z ((zT z).1, (zT z).2.1, (zT z).2.2.1, n, (zT z).2.2.2.2)
section HR
variable {E : EV} {h : AH} {z : Sc} {k : MK} {T C : List PT}
/-- rows 317 to 320 may change -/
theorem MoZ.rows {h' : AH} (H : MoZ h z k) (f : Fr 317 321 h h') (a : Rw h' 317 36) (b : Rw h' 318 36) (c : Rw h' 319 37) (d : Rw h' 320 37) : MoZ h' z k := by
  obtain ⟨h0, h1, h2, h3, h4, h5, h6, h7, h8, h9⟩ := H
  exact ⟨(f.2 _ (by omega)).trans h0, ⟨(f.2 _ (by omega)).trans h1.1, h1.2⟩, ⟨(f.2 _ (by omega)).trans h2.1, h2.2⟩, ⟨(f.2 _ (by omega)).trans h3.1, h3.2⟩, a, b, c, d, h8.fr f (by omega), h9.fr f (by omega)⟩
theorem m11_point (H : MoZ h z k) (P : PtO h T) (hn : (zT z).2.2.1 = Int32.ofNat T.length) (hl : T.length < 36) (x y : Int32) : sX11_point E [aP (some 313), aI x, aI y] h (kV fun h' => MoZ h' (zPt z (Int32.ofNat (T.length + 1))) k ∧ PtO h' (T ++ [(x, y)]) ∧ Fr 313 321 h h') := by
  obtain ⟨vx, vy, ⟨g1, l1⟩, ⟨g2, l2⟩, hT, ag⟩ := P
  refine eX11_point ?_
  unfold PX11_point_0
  have e1 : Int32.ofNat T.length = (zT z).2.2.1 := hn.symm
  have c1 := gsn (x := .inl (0, vx.set T.length x)) (show 317 ≠ 313 by omega) H.1
  have c2 := gsn (x := .inl (0, vx.set T.length x)) (show 317 ≠ 318 by omega) g2
  have c3 := gsn (x := .inl (0, vy.set T.length y)) (show 318 ≠ 313 by omega) c1
  have hi : ¬ (zT z).2.2.1 < 0 := by rw [hn]; exact i32_nn (by omega)
  have hni : (zT z).2.2.1.toNatClampNeg = T.length := by rw [hn]; exact i32_n (by omega)
  refine (rdP_iff H.1).mpr ⟨_, rfl, (rdI_iff H.1).mpr ⟨_, rfl, ⟨_, _, rfl, g1, hi, by rw [hni, l1]; exact hl, ?_⟩⟩⟩
  rw [hni]
  refine (rdP_iff c1).mpr ⟨_, rfl, (rdI_iff c1).mpr ⟨_, rfl, ⟨_, _, rfl, c2, hi, by rw [hni, l2]; exact hl, ?_⟩⟩⟩
  rw [hni]
  refine (rdI_iff c3).mpr ⟨_, rfl, (wr_iff c3).mpr ⟨Nat.le_of_ble_eq_true rfl, rfl, ?_⟩⟩
  have f1 : Fr 317 321 h (List.set (h.set 317 (.inl (0, vx.set T.length x))) 318 (.inl (0, vy.set T.length y))) := (Fr.set (by omega) (by omega)).trans (Fr.set (by omega) (by omega))
  have k1 : (List.set (h.set 317 (.inl (0, vx.set T.length x))) 318 (.inl (0, vy.set T.length y)))[317]? = some (.inl (0, vx.set T.length x)) := gsn (by omega) (gs g1)
  have k2 : (List.set (h.set 317 (.inl (0, vx.set T.length x))) 318 (.inl (0, vy.set T.length y)))[318]? = some (.inl (0, vy.set T.length y)) := gs c2
  have H1 := H.rows f1 ⟨_, k1, by rw [List.length_set]; exact l1⟩ ⟨_, k2, by rw [List.length_set]; exact l2⟩ (H.2.2.2.2.2.2.1.imp fun v w => ⟨gsn (by omega) (gsn (by omega) w.1), w.2⟩) (H.2.2.2.2.2.2.2.1.imp fun v w => ⟨gsn (by omega) (gsn (by omega) w.1), w.2⟩)
  have H2 := H1.set (zPt z (Int32.ofNat (T.length + 1)))
  have e2 : (zT z).2.2.1 + 1 = Int32.ofNat (T.length + 1) := by rw [hn, i32_s]
  rw [e2]
  refine ⟨H2, ⟨vx.set T.length x, vy.set T.length y, ⟨gsn (by omega) k1, by rw [List.length_set]; exact l1⟩, ⟨gsn (by omega) k2, by rw [List.length_set]; exact l2⟩, by rw [List.length_append, List.length_singleton]; omega, fun j hj => ?_⟩, (f1.weak (by omega) (by omega)).trans (fr313.weak (by omega) (by omega))⟩
  rw [List.length_append, List.length_singleton] at hj
  rw [getD_set, getD_set, getD_app, l1, l2]
  by_cases q : j < T.length
  · rw [if_pos q, if_neg (by omega), if_neg (by omega)]; exact ag j q
  · have : j = T.length := by omega
    subst this
    rw [if_pos ⟨rfl, by omega⟩, if_pos ⟨rfl, by omega⟩, if_neg q, if_pos rfl]
theorem pt_x {h : AH} (P : PtO h T) {j : Nat} (hj : j < T.length) {K : Int32 → Prop} (c : K (tAt T j).1) : aldI h (some 317) 0 (Int32.ofNat j) K := by
  obtain ⟨vx, vy, ⟨g1, l1⟩, ⟨g2, l2⟩, hT, ag⟩ := P
  refine aldI_of g1 (i32_nn (by omega)) (by rw [i32_n (by omega)]; exact getD_get (by omega)) ?_
  have e : vx.getD j 0 = (tAt T j).1 := congrArg Prod.fst (ag j hj)
  rw [e]; exact c
theorem pt_y {h : AH} (P : PtO h T) {j : Nat} (hj : j < T.length) {K : Int32 → Prop} (c : K (tAt T j).2) : aldI h (some 318) 0 (Int32.ofNat j) K := by
  obtain ⟨vx, vy, ⟨g1, l1⟩, ⟨g2, l2⟩, hT, ag⟩ := P
  refine aldI_of g2 (i32_nn (by omega)) (by rw [i32_n (by omega)]; exact getD_get (by omega)) ?_
  have e : vy.getD j 0 = (tAt T j).2 := congrArg Prod.snd (ag j hj)
  rw [e]; exact c
theorem m11_nextOf (H : MoZ h z k) (P : PtO h T) (hn : (zT z).2.2.1 = Int32.ofNat T.length) {v : Nat} (hv : v < T.length) : sX11_nextOf E [aP (some 313), aI (Int32.ofNat v)] h (kI fun r h' => r = Int32.ofNat (nrT T v) ∧ h' = h) := by
  have hT : T.length ≤ 36 := by obtain ⟨_, _, _, _, q, _⟩ := P; exact q
  refine uX11_nextOf (fun m h' l0 l1 l2 l3 => ∃ j b, m = T.length - j ∧ j ≤ T.length ∧ b < T.length ∧ h' = h ∧ l0 = some 313 ∧ l1 = Int32.ofNat v ∧ l2 = Int32.ofNat b ∧ l3 = Int32.ofNat j ∧ b = (List.range j).foldl (nrStep T v) v) ?_ ?_
  · exact ⟨_, 0, v, rfl, Nat.zero_le _, hv, rfl, rfl, rfl, rfl, rfl, rfl⟩
  · rintro m h' l0 l1 l2 l3 ⟨j, b, rfl, hj, hb, rfl, rfl, rfl, rfl, rfl, eb⟩
    unfold PX11_nextOf_4
    refine (rdI_iff H.1).mpr ⟨_, rfl, ?_⟩
    rw [show (zT z).2.2.1 = Int32.ofNat T.length from hn]
    refine ⟨fun c => ?_, fun c => ?_⟩
    · have hjj : j = T.length := by have := (i32_le (by omega) (by omega)).mp c; omega
      subst hjj
      exact ⟨_, rfl, by rw [eb]; rfl, rfl⟩
    · have hjj : j < T.length := by have := mt (i32_le (i := T.length) (j := j) (by omega) (by omega)).mpr c; omega
      have up : ∀ b', nrStep T v b j = b' → b' < T.length → ∃ m', m' < T.length - j ∧ ∃ j2 b2, m' = T.length - j2 ∧ j2 ≤ T.length ∧ b2 < T.length ∧ h' = h' ∧ some 313 = some 313 ∧ Int32.ofNat v = Int32.ofNat v ∧ Int32.ofNat b' = Int32.ofNat b2 ∧ Int32.ofNat j + 1 = Int32.ofNat j2 ∧ b2 = (List.range j2).foldl (nrStep T v) v := fun b' e1 e2 =>
        ⟨T.length - (j + 1), by omega, j + 1, b', rfl, hjj, e2, rfl, rfl, rfl, rfl, i32_s j, by rw [fold_succ, ← eb, e1]⟩
      have O := H.1
      refine (rdP_iff O).mpr ⟨_, rfl, pt_x P hb ((rdP_iff O).mpr ⟨_, rfl, pt_x P hv ((rdP_iff O).mpr ⟨_, rfl, pt_y P hjj ((rdP_iff O).mpr ⟨_, rfl, pt_y P hv ((rdP_iff O).mpr ⟨_, rfl, pt_y P hb ((rdP_iff O).mpr ⟨_, rfl, pt_y P hv ((rdP_iff O).mpr ⟨_, rfl, pt_x P hjj ((rdP_iff O).mpr ⟨_, rfl, pt_x P hv fun v18 e18 => ?_⟩)⟩)⟩)⟩)⟩)⟩)⟩)⟩
      have e18 : v18 = nxTurn T v b j := e18
      refine (rdP_iff O).mpr ⟨_, rfl, pt_x P hjj ((rdP_iff O).mpr ⟨_, rfl, pt_x P hv (csI (m11_size _) ((rdP_iff O).mpr ⟨_, rfl, pt_y P hjj ((rdP_iff O).mpr ⟨_, rfl, pt_y P hv (csI (m11_size _) fun v31 e31 => ?_)⟩)⟩))⟩)⟩
      have e31 : v31 = rFar T v j := e31
      refine (rdP_iff O).mpr ⟨_, rfl, pt_x P hb ((rdP_iff O).mpr ⟨_, rfl, pt_x P hv (csI (m11_size _) ((rdP_iff O).mpr ⟨_, rfl, pt_y P hb ((rdP_iff O).mpr ⟨_, rfl, pt_y P hv (csI (m11_size _) fun v44 e44 => ?_)⟩)⟩))⟩)⟩
      have e44 : v44 = rFar T v b := e44
      have es : nrStep T v b j = (if v44 = 0 ∨ v18 < 0 ∨ v18 = 0 ∧ v44 < v31 then j else b) := by rw [e44, e18, e31]; rfl
      refine ⟨fun c1 => up j (by rw [es, if_pos (Or.inl c1)]) hjj, fun c1 => ⟨fun c2 => up j (by rw [es, if_pos (Or.inr (Or.inl c2))]) hjj, fun c2 => ⟨fun c3 => ?_, fun c3 => ⟨fun c4 => ?_, fun c4 => up j (by rw [es, if_pos (Or.inr (Or.inr ⟨c3, i32_not_le.mp c4⟩))]) hjj⟩⟩⟩⟩
      · unfold PX11_nextOf_165
        exact up b (by rw [es, if_neg fun w => w.elim c1 fun w => w.elim c2 fun w => c3 w.1]) hb
      · unfold PX11_nextOf_165
        exact up b (by rw [es, if_neg fun w => w.elim c1 fun w => w.elim c2 fun w => i32_not_lt.mpr c4 w.2]) hb
theorem m11_hull (H : MoZ h z k) (P : PtO h T) (hn : (zT z).2.2.1 = Int32.ofNat T.length) (hne : T ≠ []) {m : Nat} (hm : HuE T m) : sX11_laysHull E [aP (some 313)] h (kV fun h' => (∃ z', MoZ h' z' k ∧ (zT z').2.2.2.1 = Int32.ofNat m) ∧ CoO h' (hrP T m) ∧ Fr 313 321 h h') := by
  have hT : T.length ≤ 36 := by obtain ⟨_, _, _, _, q, _⟩ := P; exact q
  have hpos : 0 < T.length := List.length_pos_iff.mpr hne
  have hlo := lowT_lt hne
  obtain ⟨m1, m36, mE, mN⟩ := hm
  refine uX11_laysHull (fun w h' l0 l1 l2 => ∃ j b, w = 1000 + (T.length - j) ∧ j < T.length ∧ b < T.length ∧ h' = h ∧ l0 = some 313 ∧ l1 = Int32.ofNat b ∧ l2 = Int32.ofNat (j + 1) ∧ b = (List.range j).foldl (lowStep T) 0)
    (fun w h' l0 l1 l2 => ∃ i, w = m - i ∧ i ≤ m ∧ l0 = some 313 ∧ l1 = Int32.ofNat (lowT T) ∧ l2 = Int32.ofNat (hrI T i) ∧ (∃ z', MoZ h' z' k ∧ (zT z').2.2.1 = Int32.ofNat T.length ∧ (zT z').2.2.2.1 = Int32.ofNat i) ∧ PtO h' T ∧ CoO h' (hrP T i) ∧ Fr 313 321 h h') ?_ ?_ ?_
  · exact ⟨_, 0, 0, rfl, hpos, hpos, rfl, rfl, rfl, rfl, rfl⟩
  · rintro w h' l0 l1 l2 ⟨j, b, rfl, hj, hb, rfl, rfl, rfl, rfl, eb⟩
    unfold PX11_laysHull_4
    have O := H.1
    refine (rdI_iff O).mpr ⟨_, rfl, ?_⟩
    rw [show (zT z).2.2.1 = Int32.ofNat T.length from hn]
    refine ⟨fun c => (wr_iff O).mpr ⟨Nat.le_of_ble_eq_true rfl, ?_⟩, fun c => ?_⟩
    · have hjj : j = T.length - 1 := by have := (i32_le (by omega) (by omega)).mp c; omega
      subst hjj
      have H1 := H.set (zCo z 0)
      obtain ⟨v6, h6⟩ := H1.2.2.2.2.2.2.1
      obtain ⟨v7, h7⟩ := H1.2.2.2.2.2.2.2.1
      exact ⟨m, by omega, 0, rfl, Nat.zero_le _, rfl, by rw [eb]; rfl, by rw [eb]; rfl, ⟨zCo z 0, H1, hn, rfl⟩, P.fr fr313 (by omega), ⟨v6, v7, h6, h7, by simp [hrP], fun j hj => by simp [hrP] at hj⟩, fr313.weak (by omega) (by omega)⟩
    · have hjj : j + 1 < T.length := by have := mt (i32_le (i := T.length) (j := j + 1) (by omega) (by omega)).mpr c; omega
      have up : ∀ b', lowStep T b j = b' → b' < T.length → ∃ m', m' < 1000 + (T.length - j) ∧ ∃ j2 b2, m' = 1000 + (T.length - j2) ∧ j2 < T.length ∧ b2 < T.length ∧ h' = h' ∧ some 313 = some 313 ∧ Int32.ofNat b' = Int32.ofNat b2 ∧ Int32.ofNat (j + 1) + 1 = Int32.ofNat (j2 + 1) ∧ b2 = (List.range j2).foldl (lowStep T) 0 := fun b' e1 e2 =>
        ⟨1000 + (T.length - (j + 1)), by omega, j + 1, b', rfl, hjj, e2, rfl, rfl, rfl, i32_s _, by rw [fold_succ, ← eb, e1]⟩
      have y61 : lowStep T b j = b → PX11_laysHull_61 E (kV fun hh => (∃ z', MoZ hh z' k ∧ (zT z').2.2.2.1 = Int32.ofNat m) ∧ CoO hh (hrP T m) ∧ Fr 313 321 h' hh) (fun h'' l0 l1 l2 => ∃ m', m' < 1000 + (T.length - j) ∧ ∃ j b, m' = 1000 + (T.length - j) ∧ j < T.length ∧ b < T.length ∧ h'' = h' ∧ l0 = some 313 ∧ l1 = Int32.ofNat b ∧ l2 = Int32.ofNat (j + 1) ∧ b = (List.range j).foldl (lowStep T) 0) h' (some 313) (Int32.ofNat b) (Int32.ofNat (j + 1)) := fun e => by
        unfold PX11_laysHull_61 PX11_laysHull_62
        exact ⟨fun _ => up b e hb, fun q => absurd rfl q⟩
      have y57 : lowStep T b j = j + 1 → PX11_laysHull_57 E (kV fun hh => (∃ z', MoZ hh z' k ∧ (zT z').2.2.2.1 = Int32.ofNat m) ∧ CoO hh (hrP T m) ∧ Fr 313 321 h' hh) (fun h'' l0 l1 l2 => ∃ m', m' < 1000 + (T.length - j) ∧ ∃ j b, m' = 1000 + (T.length - j) ∧ j < T.length ∧ b < T.length ∧ h'' = h' ∧ l0 = some 313 ∧ l1 = Int32.ofNat b ∧ l2 = Int32.ofNat (j + 1) ∧ b = (List.range j).foldl (lowStep T) 0) h' (some 313) (Int32.ofNat b) (Int32.ofNat (j + 1)) := fun e => by
        unfold PX11_laysHull_57 PX11_laysHull_62
        exact ⟨fun q => absurd q (by decide), fun _ => up (j + 1) e hjj⟩
      refine (rdP_iff O).mpr ⟨_, rfl, pt_y P hjj ((rdP_iff O).mpr ⟨_, rfl, pt_y P hb ⟨fun c1 => y57 (by unfold lowStep; rw [if_pos c1]), fun c1 => (rdP_iff O).mpr ⟨_, rfl, pt_y P hjj ((rdP_iff O).mpr ⟨_, rfl, pt_y P hb ⟨fun c2 => y61 (by unfold lowStep; rw [if_neg c1, if_neg fun w => c2 w.1]), fun c2 => (rdP_iff O).mpr ⟨_, rfl, pt_x P hjj ((rdP_iff O).mpr ⟨_, rfl, pt_x P hb ⟨fun c3 => y61 (by unfold lowStep; rw [if_neg c1, if_neg fun w => i32_not_lt.mpr c3 w.2]), fun c3 => y57 (by unfold lowStep; rw [if_neg c1, if_pos ⟨c2, i32_not_le.mp c3⟩])⟩⟩)⟩⟩⟩)⟩⟩⟩)⟩
  · rintro w h' l0 l1 l2 ⟨i, rfl, hi, rfl, rfl, rfl, ⟨z', H', hn', hc'⟩, P', C', f⟩
    have hri := hrI_lt hne (i := i)
    have O := H'.1
    have go : i < m → PX11_laysHull_123 E (kV fun h' => (∃ z', MoZ h' z' k ∧ (zT z').2.2.2.1 = Int32.ofNat m) ∧ CoO h' (hrP T m) ∧ Fr 313 321 h h') (fun h'' l0 l1 l2 => ∃ m', m' < m - i ∧ ∃ i, m' = m - i ∧ i ≤ m ∧ l0 = some 313 ∧ l1 = Int32.ofNat (lowT T) ∧ l2 = Int32.ofNat (hrI T i) ∧ (∃ z', MoZ h'' z' k ∧ (zT z').2.2.1 = Int32.ofNat T.length ∧ (zT z').2.2.2.1 = Int32.ofNat i) ∧ PtO h'' T ∧ CoO h'' (hrP T i) ∧ Fr 313 321 h h'') h' (some 313) (Int32.ofNat (lowT T)) (Int32.ofNat (hrI T i)) := fun him => by
      unfold PX11_laysHull_123
      obtain ⟨vx, vy, ⟨g1, q1⟩, ⟨g2, q2⟩, hC, ag⟩ := C'
      have hlen : (hrP T i).length = i := by simp [hrP]
      have hi0 : ¬ (zT z').2.2.2.1 < 0 := by rw [hc']; exact i32_nn (by omega)
      have hin : (zT z').2.2.2.1.toNatClampNeg = i := by rw [hc']; exact i32_n (by omega)
      have c1 := gsn (x := .inl (0, vx.set i (tAt T (hrI T i)).1)) (show 319 ≠ 313 by omega) O
      have c2 := gsn (x := .inl (0, vx.set i (tAt T (hrI T i)).1)) (show 319 ≠ 320 by omega) g2
      have c3 := gsn (x := .inl (0, vy.set i (tAt T (hrI T i)).2)) (show 320 ≠ 313 by omega) c1
      have fa : Fr 319 320 h' (h'.set 319 (.inl (0, vx.set i (tAt T (hrI T i)).1))) := Fr.set (by omega) (by omega)
      have Pa := P'.fr fa (by omega)
      refine (rdP_iff O).mpr ⟨_, rfl, (rdI_iff O).mpr ⟨_, rfl, (rdP_iff O).mpr ⟨_, rfl, pt_x P' hri ⟨_, _, rfl, g1, hi0, by rw [hin, q1]; omega, ?_⟩⟩⟩⟩
      rw [hin]
      refine (rdP_iff c1).mpr ⟨_, rfl, (rdI_iff c1).mpr ⟨_, rfl, (rdP_iff c1).mpr ⟨_, rfl, pt_y Pa hri ⟨_, _, rfl, c2, hi0, by rw [hin, q2]; omega, ?_⟩⟩⟩⟩
      rw [hin]
      refine (rdI_iff c3).mpr ⟨_, rfl, (wr_iff c3).mpr ⟨Nat.le_of_ble_eq_true rfl, ?_⟩⟩
      have f1 : Fr 319 321 h' (List.set (h'.set 319 (.inl (0, vx.set i (tAt T (hrI T i)).1))) 320 (.inl (0, vy.set i (tAt T (hrI T i)).2))) := (fa.weak (by omega) (by omega)).trans (Fr.set (by omega) (by omega))
      have k1 : (List.set (h'.set 319 (.inl (0, vx.set i (tAt T (hrI T i)).1))) 320 (.inl (0, vy.set i (tAt T (hrI T i)).2)))[319]? = some (.inl (0, vx.set i (tAt T (hrI T i)).1)) := gsn (by omega) (gs g1)
      have k2 : (List.set (h'.set 319 (.inl (0, vx.set i (tAt T (hrI T i)).1))) 320 (.inl (0, vy.set i (tAt T (hrI T i)).2)))[320]? = some (.inl (0, vy.set i (tAt T (hrI T i)).2)) := gs c2
      have H1 := H'.rows (f1.weak (by omega) (by omega)) (H'.2.2.2.2.1.fr f1 (by omega)) (H'.2.2.2.2.2.1.fr f1 (by omega)) ⟨_, k1, by rw [List.length_set]; exact q1⟩ ⟨_, k2, by rw [List.length_set]; exact q2⟩
      have e2 : (zT z').2.2.2.1 + 1 = Int32.ofNat (i + 1) := by rw [hc', i32_s]
      rw [e2]
      have H2 := H1.set (zCo z' (Int32.ofNat (i + 1)))
      have P2 := (P'.fr f1 (by omega)).fr (fr313 (x := mob k.2.2.2.1 k.2.2.2.2 (zCo z' (Int32.ofNat (i + 1))))) (by omega)
      refine cvI H2.1 (m11_nextOf H2 P2 hn' hri) ?_
      refine ⟨m - (i + 1), by omega, i + 1, rfl, him, rfl, rfl, rfl, ⟨_, H2, hn', rfl⟩, P2, ⟨vx.set i (tAt T (hrI T i)).1, vy.set i (tAt T (hrI T i)).2, ⟨gsn (by omega) k1, by rw [List.length_set]; exact q1⟩, ⟨gsn (by omega) k2, by rw [List.length_set]; exact q2⟩, by simp [hrP]; omega, fun j hj => ?_⟩, (f.trans (f1.weak (by omega) (by omega))).trans (fr313.weak (by omega) (by omega))⟩
      have hj : j < i + 1 := by simpa [hrP] using hj
      have er : hrP T (i + 1) = hrP T i ++ [tAt T (hrI T i)] := by unfold hrP; rw [List.range_succ, List.map_append]; rfl
      rw [er, getD_app, getD_set, getD_set, hlen, q1, q2]
      by_cases c : j < i
      · rw [if_pos c, if_neg (by omega), if_neg (by omega)]; exact ag j (by omega)
      · have : j = i := by omega
        subst this
        rw [if_pos ⟨rfl, by omega⟩, if_pos ⟨rfl, by omega⟩, if_neg c, if_pos rfl]
    unfold PX11_laysHull_86
    refine (rdI_iff O).mpr ⟨_, rfl, ?_⟩
    rw [show (zT z').2.2.2.1 = Int32.ofNat i from hc']
    refine ⟨fun c => ?_, fun c => (rdP_iff O).mpr ⟨_, rfl, pt_x P' hri ((rdP_iff O).mpr ⟨_, rfl, pt_x P' hlo ⟨fun c1 => ?_, fun c1 => (rdP_iff O).mpr ⟨_, rfl, pt_y P' hri ((rdP_iff O).mpr ⟨_, rfl, pt_y P' hlo ⟨fun c2 => ?_, fun c2 => ?_⟩⟩)⟩⟩⟩)⟩⟩
    · have : i = 0 := i32_inj (n := 0) (by omega) (by omega) c
      exact go (by omega)
    · exact go (Nat.lt_of_le_of_ne hi fun q => c1 (by rw [q, mE]))
    · have hi0 : 0 < i := Nat.pos_of_ne_zero fun q => c (by rw [q]; rfl)
      have him : i = m := Classical.byContradiction fun q => mN i hi0 (by omega) (Prod.ext c1 c2)
      subst him
      exact ⟨rfl, ⟨z', H', hc'⟩, C', f⟩
    · exact go (Nat.lt_of_le_of_ne hi fun q => c2 (by rw [q, mE]))
end HR
