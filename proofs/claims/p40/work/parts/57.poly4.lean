theorem lg_lt {x y : Int64} : lg_cmp x y < 0 ↔ x < y := by
  unfold lg_cmp
  by_cases c1 : y < x
  · simp only [gt_iff_lt, c1, if_true]
    refine ⟨fun c => absurd c (by decide), fun c => ?_⟩
    rw [Int64.lt_iff_toInt_lt] at c c1; omega
  · by_cases c2 : x = y
    · subst c2
      simp only [gt_iff_lt, c1, if_false, if_true]
      exact ⟨fun c => absurd c (by decide), fun c => c.elim⟩
    · simp only [gt_iff_lt, c1, c2, if_false]
      refine ⟨fun _ => ?_, fun _ => by decide⟩
      have c3 : ¬ x.toInt = y.toInt := fun q => c2 (Int64.toInt_inj.mp q)
      rw [Int64.lt_iff_toInt_lt] at c1 ⊢; omega
theorem lg_gt {x y : Int64} : 0 < lg_cmp x y ↔ y < x := by
  unfold lg_cmp
  by_cases c1 : y < x
  · simp only [gt_iff_lt, c1, if_true]
    exact ⟨fun _ => trivial, fun _ => by decide⟩
  · by_cases c2 : x = y
    · subst c2; simp only [gt_iff_lt, c1, if_false, if_true]
      exact ⟨fun c => absurd c (by decide), fun c => c.elim⟩
    · simp only [gt_iff_lt, c1, c2, if_false]
      exact ⟨fun c => absurd c (by decide), fun c => c.elim⟩
theorem i32_not_le {x y : Int32} : ¬ x ≤ y ↔ y < x := by rw [Int32.le_iff_toInt_le, Int32.lt_iff_toInt_lt]; omega
theorem i32_not_lt {x y : Int32} : ¬ x < y ↔ y ≤ x := by rw [Int32.le_iff_toInt_le, Int32.lt_iff_toInt_lt]; omega
theorem lg_ge {x y : Int64} : 0 ≤ lg_cmp x y ↔ ¬ x < y := by rw [← lg_lt, i32_not_lt]
theorem lg_le {x y : Int64} : lg_cmp x y ≤ 0 ↔ ¬ y < x := by rw [← lg_gt, i32_not_lt]
theorem any_succ {p : Nat → Bool} {j : Nat} : (List.range (j + 1)).any p = ((List.range j).any p || p j) := by simp [List.range_succ]
theorem any_lt {p : Nat → Bool} {n : Nat} : (List.range n).any p = true ↔ ∃ e, e < n ∧ p e = true := by simp [List.any_eq_true]
theorem fold_succ {β : Type} {f : β → Nat → β} {b : β} {j : Nat} : (List.range (j + 1)).foldl f b = f ((List.range j).foldl f b) j := by simp [List.range_succ, List.foldl_append]
theorem i32_inj {m n : Nat} (hm : m < 2147483648) (hn : n < 2147483648) (q : Int32.ofNat m = Int32.ofNat n) : m = n := by
  have := congrArg Int32.toInt q
  rw [i32_lt hm, i32_lt hn] at this; omega
section PR
variable {E : EV} {h : AH} {a p q : Nat} {V A B W : List PT}
theorem s5_area (H : PolyAt h a V) : sX5_areaTwice E [aP (some a)] h (kI fun r h' => r = areaP V ∧ h' = h) := by
  obtain ⟨lw, l, b, r, t, xs, ys, h1, -, -, h4, -⟩ := id H
  let f : Int32 → Nat → Int32 := fun s k => s + ((vAt V k).1 * (vAt V (k + 1)).2 - (vAt V (k + 1)).1 * (vAt V k).2)
  refine eX5_areaTwice (J4 := fun h' l0 l1 l2 => ∃ z j, z = V.length - j ∧ j ≤ V.length ∧ h' = h ∧ l0 = some a ∧ l1 = (List.range j).foldl f 0 ∧ l2 = Int32.ofNat j) (fun X C D h' l0 l1 l2 ⟨z, hz⟩ => ?_) ⟨V.length, 0, rfl, Nat.zero_le _, rfl, rfl, rfl, rfl⟩
  refine lpX5_areaTwice_4 C D (fun z h' l0 l1 l2 => ∃ j, z = V.length - j ∧ j ≤ V.length ∧ h' = h ∧ l0 = some a ∧ l1 = (List.range j).foldl f 0 ∧ l2 = Int32.ofNat j) (fun z h' l0 l1 l2 hI => ?_) z h' l0 l1 l2 hz
  obtain ⟨j, rfl, hj, rfl, rfl, rfl, rfl⟩ := hI
  unfold PX5_areaTwice_4
  refine (rdI_iff h1).mpr ⟨_, rfl, fun c => ?_, fun c => ?_⟩
  · have hjj : j = V.length := by have := (i32_le (by omega) (by omega)).mp c; omega
    subst hjj
    exact ⟨_, rfl, rfl, rfl⟩
  · have hjj : j < V.length := by have := mt (i32_le (i := V.length) (j := j) (by omega) (by omega)).mpr c; omega
    have hne : V ≠ [] := fun q => by rw [q] at hjj; simp at hjj
    rw [i32_s]
    exact cvI h1 (s5_x H hne (by omega)) (cvI h1 (s5_y H hne (by omega)) (cvI h1 (s5_x H hne (by omega)) (cvI h1 (s5_y H hne (by omega)) fun v10 e10 => ⟨V.length - (j + 1), by omega, j + 1, rfl, hjj, rfl, rfl, by rw [e10, fold_succ], rfl⟩)))
theorem s5_locate (H : PolyAt h a V) (hne : V ≠ []) (x y : Int32) : sX5_locate E [aP (some a), aI x, aI y] h (kI fun r h' => r = locP V x y ∧ h' = h) := by
  obtain ⟨lw, l, b, r, t, xs, ys, h1, -, -, h4, -, hf⟩ := id H
  obtain ⟨e2, e3, e4, e5⟩ : l = (pfold V).2.2.2.1 ∧ b = (pfold V).2.2.2.2.1 ∧ r = (pfold V).2.2.2.2.2.1 ∧ t = (pfold V).2.2.2.2.2.2 := by
    have := hf hne
    exact ⟨congrArg (·.2.1) this, congrArg (·.2.2.1) this, congrArg (·.2.2.2.1) this, congrArg (·.2.2.2.2) this⟩
  refine eX5_locate (J39 := fun h' l0 l1 l2 l3 l4 => ∃ z j, z = V.length - j ∧ j ≤ V.length ∧ h' = h ∧ l0 = some a ∧ l1 = x ∧ l2 = y ∧ l4 = Int32.ofNat j ∧ l3 = (if (List.range j).any (fun e => decide (sideP V e x y = 0)) = true then 1 else 2) ∧ (List.range j).any (fun e => decide (sideP V e x y < 0)) = false ∧ ¬ (x < l ∨ r < x ∨ y < b ∨ t < y)) (fun X C D h' l0 l1 l2 l3 l4 ⟨z, hz⟩ => ?_) ?_
  · refine lpX5_locate_39 C D (fun z h' l0 l1 l2 l3 l4 => ∃ j, z = V.length - j ∧ j ≤ V.length ∧ h' = h ∧ l0 = some a ∧ l1 = x ∧ l2 = y ∧ l4 = Int32.ofNat j ∧ l3 = (if (List.range j).any (fun e => decide (sideP V e x y = 0)) = true then 1 else 2) ∧ (List.range j).any (fun e => decide (sideP V e x y < 0)) = false ∧ ¬ (x < l ∨ r < x ∨ y < b ∨ t < y)) (fun z h' l0 l1 l2 l3 l4 hI => ?_) z h' l0 l1 l2 l3 l4 hz
    obtain ⟨j, rfl, hj, rfl, rfl, rfl, rfl, rfl, hl3, hno, hbx⟩ := hI
    unfold PX5_locate_39
    refine (rdI_iff h1).mpr ⟨_, rfl, fun c => ?_, fun c => ?_⟩
    · have hjj : j = V.length := by have := (i32_le (by omega) (by omega)).mp c; omega
      subst hjj
      refine ⟨_, rfl, ?_, rfl⟩
      unfold locP
      rw [← e2, ← e3, ← e4, ← e5, if_neg hbx, hno, if_neg (by simp), hl3]
    · have hjj : j < V.length := by have := mt (i32_le (i := V.length) (j := j) (by omega) (by omega)).mpr c; omega
      refine cvI h1 (s5_side H hjj _ _) ⟨fun c1 => ⟨fun c2 => ?_, fun c2 => ?_⟩, fun c1 => ?_⟩
      · refine ⟨V.length - (j + 1), by omega, j + 1, rfl, hjj, rfl, rfl, rfl, rfl, i32_s j, ?_, ?_, hbx⟩
        · rw [any_succ, hl3]; simp [c2]
        · rw [any_succ, hno]; simp [i32_not_lt.mpr c1]
      · refine ⟨V.length - (j + 1), by omega, j + 1, rfl, hjj, rfl, rfl, rfl, rfl, i32_s j, ?_, ?_, hbx⟩
        · rw [any_succ]; simp [c2]
        · rw [any_succ, hno]; simp [i32_not_lt.mpr c1]
      · refine ⟨_, rfl, ?_, rfl⟩
        unfold locP
        rw [← e2, ← e3, ← e4, ← e5, if_neg hbx, if_pos]
        exact any_lt.mpr ⟨j, hjj, by simp [i32_not_le.mp c1]⟩
  · unfold PX5_locate_0
    have out : (x < l ∨ r < x ∨ y < b ∨ t < y) → kI (fun r h' => r = locP V x y ∧ h' = h) (some (aI 0)) h := fun c => ⟨_, rfl, by unfold locP; rw [← e2, ← e3, ← e4, ← e5, if_pos c], rfl⟩
    refine (rdI_iff h1).mpr ⟨_, rfl, fun c => out (Or.inl c), fun c1 => (rdI_iff h1).mpr ⟨_, rfl, fun c => out (Or.inr (Or.inl c)), fun c2 => (rdI_iff h1).mpr ⟨_, rfl, fun c => out (Or.inr (Or.inr (Or.inl c))), fun c3 => (rdI_iff h1).mpr ⟨_, rfl, fun c => ?_, fun c => out (Or.inr (Or.inr (Or.inr (i32_not_le.mp c))))⟩⟩⟩⟩
    exact ⟨V.length, 0, rfl, Nat.zero_le _, rfl, rfl, rfl, rfl, rfl, rfl, rfl, fun q => by
      rcases q with q | q | q | q
      · exact c1 q
      · exact c2 q
      · exact c3 q
      · exact absurd c (i32_not_le.mpr q)⟩
theorem s5_setSquare (H : PolyAt h a W) (x y r : Int32) : sX5_setSquare E [aP (some a), aI x, aI y, aI r] h (kV fun h' => PolyAt h' a (sqP x y r) ∧ Fr a (a + 3) h h') := by
  have ad : ∀ {h : AH} {V : List PT}, PolyAt h a V → ∃ fs, h[a]? = some (.inr (5, fs)) := fun ⟨_, _, _, _, _, _, _, q, _⟩ => ⟨_, q⟩
  obtain ⟨f0, g0⟩ := ad H
  refine eX5_setSquare ?_
  unfold PX5_setSquare_0
  refine cvVq g0 (s5_clear H) fun h1 ⟨q1, f1⟩ => ?_
  obtain ⟨f0, g1⟩ := ad q1
  refine cvVq g1 (s5_add q1 (by simp) _ _) fun h2 ⟨q2, f2⟩ => ⟨fun c => ⟨rfl, ?_, f1.trans f2⟩, fun c => ?_⟩
  · unfold sqP; rw [if_pos c]; exact q2
  · obtain ⟨f0, g2⟩ := ad q2
    refine cvVq g2 (s5_add q2 (by simp) _ _) fun h3 ⟨q3, f3⟩ => ?_
    obtain ⟨f0, g3⟩ := ad q3
    refine cvVq g3 (s5_add q3 (by simp) _ _) fun h4 ⟨q4, f4⟩ => ?_
    obtain ⟨f0, g4⟩ := ad q4
    refine cvVq g4 (s5_add q4 (by simp) _ _) fun h5 ⟨q5, f5⟩ => ⟨rfl, ?_, (((f1.trans f2).trans f3).trans f4).trans f5⟩
    unfold sqP; rw [if_neg c]; exact q5
theorem s5_turn (HA : PolyAt h p A) (HB : PolyAt h q B) (hA : A ≠ []) (hB : B ≠ []) {i j : Nat} (hi : i ≤ A.length) (hj : j ≤ B.length) : sX5_turnBetween E [aP (some p), aI (Int32.ofNat i), aP (some q), aI (Int32.ofNat j)] h (kI fun r h' => r = turnP A B i j ∧ h' = h) := by
  obtain ⟨_, _, _, _, _, _, _, h1, -, -, h4, -⟩ := id HA
  obtain ⟨_, _, _, _, _, _, _, h2, -, -, h5, -⟩ := id HB
  refine eX5_turnBetween ?_
  unfold PX5_turnBetween_0
  refine (rdI_iff h1).mpr ⟨_, rfl, fun c => (rdI_iff h2).mpr ⟨_, rfl, fun c2 => ?_, fun c2 => ⟨_, rfl, ?_, rfl⟩⟩, fun c => ⟨_, rfl, ?_, rfl⟩⟩
  · have ci := (i32_ltn (by omega) (by omega)).mp c
    have cj := (i32_ltn (by omega) (by omega)).mp c2
    rw [i32_s, i32_s]
    refine cvI h1 (s5_x HA hA (by omega)) (cvI h1 (s5_x HA hA (by omega)) fun v7 e7 => cvI h1 (s5_y HA hA (by omega)) (cvI h1 (s5_y HA hA (by omega)) fun v12 e12 => cvI h2 (s5_x HB hB (by omega)) (cvI h2 (s5_x HB hB (by omega)) fun v17 e17 => cvI h2 (s5_y HB hB (by omega)) (cvI h2 (s5_y HB hB (by omega)) fun v22 e22 => ⟨_, rfl, ?_, rfl⟩))))
    unfold turnP
    rw [if_pos ci, if_pos cj, e7, e12, e17, e22]
  · have ci := (i32_ltn (by omega) (by omega)).mp c
    have cj := mt (i32_ltn (i := j) (j := B.length) (by omega) (by omega)).mpr c2
    unfold turnP; rw [if_pos ci, if_neg cj]
  · have ci := mt (i32_ltn (i := i) (j := A.length) (by omega) (by omega)).mpr c
    unfold turnP; rw [if_neg ci]
theorem s5_setSum (H : PolyAt h a W) (HA : PolyAt h p A) (HB : PolyAt h q B) (hA : A ≠ []) (hB : B ≠ []) (hl : A.length + B.length ≤ 18) (dp : p + 3 ≤ a ∨ a + 3 ≤ p) (dq : q + 3 ≤ a ∨ a + 3 ≤ q) : sX5_setSum E [aP (some a), aP (some p), aP (some q)] h (kV fun h' => PolyAt h' a (sumP A B) ∧ Fr a (a + 3) h h') := by
  have ad : ∀ {h : AH} {V : List PT} {a : Nat}, PolyAt h a V → ∃ fs, h[a]? = some (.inr (5, fs)) := fun ⟨_, _, _, _, _, _, _, q, _⟩ => ⟨_, q⟩
  refine eX5_setSum (J23 := fun h' l0 l1 l2 l3 l4 l5 l6 => ∃ z t i j S, t = z ∧ t ≤ A.length + B.length ∧ i ≤ A.length ∧ j ≤ B.length ∧ l0 = some a ∧ l1 = some p ∧ l2 = some q ∧ l3 = Int32.ofNat i ∧ l4 = Int32.ofNat j ∧ l5 = Int32.ofNat (A.length + B.length) ∧ l6 = Int32.ofNat (A.length + B.length - t) ∧ PolyAt h' a S ∧ S.length + t ≤ 18 ∧ S ++ sumGo A B t i j = sumP A B ∧ Fr a (a + 3) h h') (fun X C D h' l0 l1 l2 l3 l4 l5 l6 ⟨z, hz⟩ => ?_) ?_
  · refine lpX5_setSum_23 C D (fun z h' l0 l1 l2 l3 l4 l5 l6 => ∃ t i j S, t = z ∧ t ≤ A.length + B.length ∧ i ≤ A.length ∧ j ≤ B.length ∧ l0 = some a ∧ l1 = some p ∧ l2 = some q ∧ l3 = Int32.ofNat i ∧ l4 = Int32.ofNat j ∧ l5 = Int32.ofNat (A.length + B.length) ∧ l6 = Int32.ofNat (A.length + B.length - t) ∧ PolyAt h' a S ∧ S.length + t ≤ 18 ∧ S ++ sumGo A B t i j = sumP A B ∧ Fr a (a + 3) h h') (fun z h' l0 l1 l2 l3 l4 l5 l6 hI => ?_) z h' l0 l1 l2 l3 l4 l5 l6 hz
    obtain ⟨t, i, j, S, rfl, ht, hi, hj, rfl, rfl, rfl, rfl, rfl, rfl, rfl, HS, hsl, hgo, f⟩ := hI
    have HA' := HA.fr f (by omega)
    have HB' := HB.fr f (by omega)
    obtain ⟨_, _, _, _, _, _, _, h1, -, -, hA18, -⟩ := id HA'
    obtain ⟨_, _, _, _, _, _, _, h2, -, -, hB18, -⟩ := id HB'
    obtain ⟨_, h3⟩ := ad HS
    have stop : (t = 0 ∨ ¬ (i < A.length ∨ j < B.length)) → kV (fun h' => PolyAt h' a (sumP A B) ∧ Fr a (a + 3) h h') none h' := fun c => by
      have e0 : sumGo A B t i j = [] := by
        rcases c with c | c
        · rw [c]; rfl
        · cases t with
          | zero => rfl
          | succ t => unfold sumGo; rw [if_neg c]
      rw [e0, List.append_nil] at hgo
      exact ⟨rfl, hgo ▸ HS, f⟩
    have step : t ≠ 0 → (i < A.length ∨ j < B.length) → PX5_setSum_47 E (kV fun h' => PolyAt h' a (sumP A B) ∧ Fr a (a + 3) h h') (fun h' l0 l1 l2 l3 l4 l5 l6 => ∃ z', z' < t ∧ ∃ t i j S, t = z' ∧ t ≤ A.length + B.length ∧ i ≤ A.length ∧ j ≤ B.length ∧ l0 = some a ∧ l1 = some p ∧ l2 = some q ∧ l3 = Int32.ofNat i ∧ l4 = Int32.ofNat j ∧ l5 = Int32.ofNat (A.length + B.length) ∧ l6 = Int32.ofNat (A.length + B.length - t) ∧ PolyAt h' a S ∧ S.length + t ≤ 18 ∧ S ++ sumGo A B t i j = sumP A B ∧ Fr a (a + 3) h h') h' (some a) (some p) (some q) (Int32.ofNat i) (Int32.ofNat j) (Int32.ofNat (A.length + B.length)) (Int32.ofNat (A.length + B.length - t)) := by
      intro ht0 hc
      obtain ⟨t, rfl⟩ : ∃ t', t = t' + 1 := ⟨t - 1, by omega⟩
      unfold PX5_setSum_47
      refine cvI h1 (s5_x HA' hA hi) (cvI h2 (s5_x HB' hB hj) (cvI h1 (s5_y HA' hA hi) (cvI h2 (s5_y HB' hB hj) (cvVq h3 (s5_add HS (by omega) _ _) fun h6 ⟨q6, f6⟩ => ?_))))
      have HA6 := HA'.fr f6 (by omega)
      have HB6 := HB'.fr f6 (by omega)
      refine csI (s5_turn HA6 HB6 hA hB hi hj) ?_
      have e1 : Int32.ofNat (A.length + B.length - (t + 1)) + 1 = Int32.ofNat (A.length + B.length - t) := by rw [i32_s]; congr 1; omega
      unfold sumGo at hgo
      rw [if_pos hc] at hgo
      have fin : ∀ i' j', i' ≤ A.length → j' ≤ B.length → i' = (if turnP A B i j < 0 then i else i + 1) → j' = (if 0 < turnP A B i j then j else j + 1) → ∃ z', z' < t + 1 ∧ ∃ t2 i j S, t2 = z' ∧ t2 ≤ A.length + B.length ∧ i ≤ A.length ∧ j ≤ B.length ∧ some a = some a ∧ some p = some p ∧ some q = some q ∧ Int32.ofNat i' = Int32.ofNat i ∧ Int32.ofNat j' = Int32.ofNat j ∧ Int32.ofNat (A.length + B.length) = Int32.ofNat (A.length + B.length) ∧ Int32.ofNat (A.length + B.length - (t + 1)) + 1 = Int32.ofNat (A.length + B.length - t2) ∧ PolyAt h6 a S ∧ S.length + t2 ≤ 18 ∧ S ++ sumGo A B t2 i j = sumP A B ∧ Fr a (a + 3) h h6 := fun i' j' hi' hj' ei ej =>
        ⟨t, by omega, t, i', j', _, rfl, by omega, hi', hj', rfl, rfl, rfl, rfl, rfl, rfl, e1, q6, by simp; omega, by rw [← hgo, ei, ej]; simp, f.trans f6⟩
      have tA : ¬ i < A.length → turnP A B i j = -1 := fun c => by unfold turnP; rw [if_neg c]
      have tB : i < A.length → ¬ j < B.length → turnP A B i j = 1 := fun c c2 => by unfold turnP; rw [if_pos c, if_neg c2]
      refine ⟨fun c => ?_, fun c => ?_⟩ <;> unfold PX5_setSum_93 <;> refine ⟨fun c2 => ?_, fun c2 => ?_⟩
      · rw [Int32.lt_iff_toInt_lt] at c c2; omega
      · rw [i32_s]
        refine fin i (j + 1) hi ?_ (by rw [if_pos c]) (by rw [if_neg c2])
        rcases Nat.lt_or_ge j B.length with cj | cj
        · exact cj
        · have ci : i < A.length := by omega
          rw [tB ci (by omega)] at c
          exact absurd c (by decide)
      · rw [i32_s]
        refine fin (i + 1) j ?_ hj (by rw [if_neg c]) (by rw [if_pos c2])
        rcases Nat.lt_or_ge i A.length with ci | ci
        · exact ci
        · rw [tA (by omega)] at c
          exact absurd (by decide) c
      · rw [i32_s, i32_s]
        have ci : i < A.length := by
          rcases Nat.lt_or_ge i A.length with ci | ci
          · exact ci
          · rw [tA (by omega)] at c
            exact absurd (by decide) c
        refine fin (i + 1) (j + 1) ci ?_ (by rw [if_neg c]) (by rw [if_neg c2])
        rcases Nat.lt_or_ge j B.length with cj | cj
        · exact cj
        · rw [tB ci (by omega)] at c2
          exact absurd (by decide) c2
    unfold PX5_setSum_23
    refine ⟨fun c => stop (Or.inl ?_), fun c => ?_⟩
    · have := (i32_le (by omega) (by omega)).mp c; omega
    · have ht0 : t ≠ 0 := fun q => by
        subst q
        exact c ((i32_le (by omega) (by omega)).mpr (by omega))
      refine (rdI_iff h1).mpr ⟨_, rfl, fun c1 => ?_, fun c1 => (rdI_iff h2).mpr ⟨_, rfl, fun c2 => stop (Or.inr ?_), fun c2 => ?_⟩⟩
      · exact step ht0 (Or.inl ((i32_ltn (by omega) (by omega)).mp c1))
      · have := mt (i32_ltn (i := i) (j := A.length) (by omega) (by omega)).mpr c1
        have := (i32_le (by omega) (by omega)).mp c2
        omega
      · refine step ht0 (Or.inr ?_)
        have := mt (i32_le (i := B.length) (j := j) (by omega) (by omega)).mpr c2
        omega
  · unfold PX5_setSum_0
    obtain ⟨f0, g0⟩ := ad H
    refine cvVq g0 (s5_clear H) fun h2 ⟨q2, f2⟩ => ?_
    obtain ⟨_, _, _, _, _, _, _, h1, -⟩ := HA.fr f2 (by omega)
    obtain ⟨_, _, _, _, _, _, _, h3, -⟩ := HB.fr f2 (by omega)
    refine (rdI_iff h1).mpr ⟨_, rfl, (rdI_iff h3).mpr ⟨_, rfl, fun v7 e7 => ?_⟩⟩
    exact ⟨_, A.length + B.length, 0, 0, [], rfl, Nat.le_refl _, Nat.zero_le _, Nat.zero_le _, rfl, rfl, rfl, rfl, rfl, by rw [e7, i32_add], by rw [Nat.sub_self]; rfl, q2, by simp; omega, rfl, f2⟩
end PR
