/-! distance of a point, entry of a ray -/
def gapQ (f : FQ) (s tx ty al sq : Int64) : FQ := if 0 < al ∧ al < sq then lowF (lowF f (tx * tx + ty * ty, 1)) (s * s, sq) else lowF f (tx * tx + ty * ty, 1)
def gapStep (V : List PT) (x y : Int32) (f : FQ) (e : Nat) : FQ :=
  gapQ f (sideP V e x y).toInt64 (x - (vAt V e).1).toInt64 (y - (vAt V e).2).toInt64 ((x - (vAt V e).1).toInt64 * ((vAt V (e + 1)).1 - (vAt V e).1).toInt64 + (y - (vAt V e).2).toInt64 * ((vAt V (e + 1)).2 - (vAt V e).2).toInt64) (((vAt V (e + 1)).1 - (vAt V e).1).toInt64 * ((vAt V (e + 1)).1 - (vAt V e).1).toInt64 + ((vAt V (e + 1)).2 - (vAt V e).2).toInt64 * ((vAt V (e + 1)).2 - (vAt V e).2).toInt64)
def gapV (V : List PT) (x y : Int32) (f : FQ) : FQ := if locP V x y = 0 then (List.range V.length).foldl (gapStep V x y) f else lowF f (0, 1)
abbrev Q4 : Type := Int64 × Int64 × Int64 × Int64
def entUp (q : Q4) (s g : Int64) : Q4 :=
  (if 0 < g ∧ q.1 * g < -s * q.2.1 then -s else q.1, if 0 < g ∧ q.1 * g < -s * q.2.1 then g else q.2.1, if g < 0 ∧ s * q.2.2.2 < q.2.2.1 * -g then s else q.2.2.1, if g < 0 ∧ s * q.2.2.2 < q.2.2.1 * -g then -g else q.2.2.2)
def entGo (V : List PT) (x y dx dy : Int32) : Nat → Nat → Q4 → Option Q4
  | 0, _, q => some q
  | t + 1, e, q => if (sideP V e (x + dx) (y + dy)).toInt64 - (sideP V e x y).toInt64 = 0 ∧ ¬ 0 < (sideP V e x y).toInt64 then none else entGo V x y dx dy t (e + 1) (entUp q (sideP V e x y).toInt64 ((sideP V e (x + dx) (y + dy)).toInt64 - (sideP V e x y).toInt64))
theorem entGo_succ {V : List PT} {x y dx dy : Int32} {t e : Nat} {q : Q4} : entGo V x y dx dy (t + 1) e q = if (sideP V e (x + dx) (y + dy)).toInt64 - (sideP V e x y).toInt64 = 0 ∧ ¬ 0 < (sideP V e x y).toInt64 then none else entGo V x y dx dy t (e + 1) (entUp q (sideP V e x y).toInt64 ((sideP V e (x + dx) (y + dy)).toInt64 - (sideP V e x y).toInt64)) := rfl
def entP (V : List PT) (x y dx dy : Int32) : Option FQ := match entGo V x y dx dy V.length 0 (-1, 0, 1, 0) with
  | none => none
  | some q => if 0 < q.2.2.1 ∧ q.1 * q.2.2.2 < q.2.2.1 * q.2.1 then some (if 0 < q.1 then q.1 else 0, q.2.1) else none
def lowO (f : FQ) (o : Option FQ) : FQ := match o with
  | none => f
  | some g => lowF f g
section PQ
variable {E : EV} {h : AH} {a b : Nat} {V : List PT} {f : FQ}
theorem s5_gap (H : PolyAt h a V) (hne : V ≠ []) (G : FrAt h b f) (d : b < a ∨ a + 3 ≤ b) (x y : Int32) : sX5_lowerToDistance E [aP (some a), aI x, aI y, aP (some b)] h (kV fun h' => FrAt h' b (gapV V x y f) ∧ Fr b (b + 1) h h') := by
  obtain ⟨_, _, _, _, _, _, _, h1, -, -, h4, -⟩ := id H
  refine eX5_lowerToDistance (J20 := fun h' l0 l1 l2 l3 l4 => ∃ z j, z = V.length - j ∧ j ≤ V.length ∧ l0 = some a ∧ l1 = x ∧ l2 = y ∧ l3 = some b ∧ l4 = Int32.ofNat j ∧ FrAt h' b ((List.range j).foldl (gapStep V x y) f) ∧ Fr b (b + 1) h h' ∧ locP V x y = 0) (fun X C D h' l0 l1 l2 l3 l4 ⟨z, hz⟩ => ?_) ?_
  · refine lpX5_lowerToDistance_20 C D (fun z h' l0 l1 l2 l3 l4 => ∃ j, z = V.length - j ∧ j ≤ V.length ∧ l0 = some a ∧ l1 = x ∧ l2 = y ∧ l3 = some b ∧ l4 = Int32.ofNat j ∧ FrAt h' b ((List.range j).foldl (gapStep V x y) f) ∧ Fr b (b + 1) h h' ∧ locP V x y = 0) (fun z h' l0 l1 l2 l3 l4 hI => ?_) z h' l0 l1 l2 l3 l4 hz
    obtain ⟨j, rfl, hj, rfl, rfl, rfl, rfl, rfl, G', fr, hl⟩ := hI
    have H' := H.fr fr (by omega)
    obtain ⟨_, _, _, _, _, _, _, h1, -, -, h4, -⟩ := id H'
    unfold PX5_lowerToDistance_20
    refine (rdI_iff h1).mpr ⟨_, rfl, fun c => ?_, fun c => ?_⟩
    · have hjj : j = V.length := by have := (i32_le (by omega) (by omega)).mp c; omega
      subst hjj
      refine ⟨rfl, ?_, fr⟩
      unfold gapV; rw [if_pos hl]; exact G'
    · have hjj : j < V.length := by have := mt (i32_le (i := V.length) (j := j) (by omega) (by omega)).mpr c; omega
      rw [i32_s]
      refine cvI h1 (s5_x H' hne (by omega)) fun v4 e4 => cvI h1 (s5_y H' hne (by omega)) fun v7 e7 => cvI h1 (s5_x H' hne (by omega)) (cvI h1 (s5_x H' hne (by omega)) fun v12 e12 => cvI h1 (s5_y H' hne (by omega)) (cvI h1 (s5_y H' hne (by omega)) fun v17 e17 v18 e18 v19 e19 => ?_))
      refine cvIq G' (s0_lowerTo G' _ _) fun r h2 ⟨_, G2, f2⟩ => ?_
      have H2 := H'.fr f2 (by omega)
      obtain ⟨_, _, _, _, _, _, _, k1, -⟩ := id H2
      have step : ∀ h3, FrAt h3 b (gapStep V l1 l2 ((List.range j).foldl (gapStep V l1 l2) f) j) → Fr b (b + 1) h2 h3 → ∃ z', z' < V.length - j ∧ ∃ j', z' = V.length - j' ∧ j' ≤ V.length ∧ some a = some a ∧ l1 = l1 ∧ l2 = l2 ∧ some b = some b ∧ Int32.ofNat (j + 1) = Int32.ofNat j' ∧ FrAt h3 b ((List.range j').foldl (gapStep V l1 l2) f) ∧ Fr b (b + 1) h h3 ∧ locP V l1 l2 = 0 := fun h3 G3 f3 =>
        ⟨V.length - (j + 1), by omega, j + 1, rfl, hjj, rfl, rfl, rfl, rfl, rfl, by rw [fold_succ]; exact G3, (fr.trans f2).trans f3, hl⟩
      have gst : ∀ F, gapStep V l1 l2 F j = gapQ F (sideP V j l1 l2).toInt64 v4 v7 v18 v19 := fun F => by
        rw [e19, e18, e17, e12, e7, e4]; rfl
      have no : ¬ (0 < v18 ∧ v18 < v19) → gapStep V l1 l2 ((List.range j).foldl (gapStep V l1 l2) f) j = lowF ((List.range j).foldl (gapStep V l1 l2) f) (v4 * v4 + v7 * v7, 1) := fun q => by
        rw [gst]; unfold gapQ; rw [if_neg q]
      refine ⟨fun c1 => ?_, fun c1 => ⟨fun c2 => ?_, fun c2 => ?_⟩⟩
      · exact step h2 (by rw [no (fun q => (lg_le.mp c1) q.1)]; exact G2) Fr.refl
      · exact step h2 (by rw [no (fun q => (lg_ge.mp c2) q.2)]; exact G2) Fr.refl
      · have p1 : 0 < v18 := Decidable.of_not_not (mt lg_le.mpr c1)
        have p2 : v18 < v19 := Decidable.of_not_not (mt lg_ge.mpr c2)
        refine cvI k1 (s5_side H2 hjj _ _) (cvIq G2 (s0_lowerTo G2 _ _) fun r h3 ⟨_, G3, f3⟩ => step h3 ?_ f3)
        have : gapStep V l1 l2 ((List.range j).foldl (gapStep V l1 l2) f) j = lowF (lowF ((List.range j).foldl (gapStep V l1 l2) f) (v4 * v4 + v7 * v7, 1)) ((sideP V j l1 l2).toInt64 * (sideP V j l1 l2).toInt64, v19) := by
          rw [gst]; unfold gapQ; rw [if_pos ⟨p1, p2⟩]
        rw [this]; exact G3
  · unfold PX5_lowerToDistance_0
    refine cvI h1 (s5_locate H hne x y) ⟨fun c => ⟨V.length, 0, rfl, Nat.zero_le _, rfl, rfl, rfl, rfl, rfl, G, Fr.refl, c⟩, fun c => cvIq G (s0_lowerTo G _ _) fun r h2 ⟨_, G2, f2⟩ => ⟨rfl, ?_, f2⟩⟩
    unfold gapV; rw [if_neg c]; exact G2
theorem s5_entry (H : PolyAt h a V) (hne : V ≠ []) (G : FrAt h b f) (d : b < a ∨ a + 3 ≤ b) (x y dx dy : Int32) : sX5_lowerToEntry E [aP (some a), aI x, aI y, aI dx, aI dy, aP (some b)] h (kI fun r h' => r = (if (entP V x y dx dy).isSome = true then 1 else 0) ∧ FrAt h' b (lowO f (entP V x y dx dy)) ∧ Fr b (b + 1) h h') := by
  obtain ⟨_, _, _, _, _, _, _, h1, -, -, h4, -⟩ := id H
  refine eX5_lowerToEntry (J17 := fun h' l0 l1 l2 l3 l4 l5 l6 l8 l10 l12 l14 => ∃ z j, z = V.length - j ∧ j ≤ V.length ∧ h' = h ∧ l0 = some a ∧ l1 = x ∧ l2 = y ∧ l3 = dx ∧ l4 = dy ∧ l5 = some b ∧ l14 = Int32.ofNat j ∧ entGo V x y dx dy (V.length - j) j (l6, l8, l10, l12) = entGo V x y dx dy V.length 0 (-1, 0, 1, 0)) (fun X C D h' l0 l1 l2 l3 l4 l5 l6 l8 l10 l12 l14 ⟨z, hz⟩ => ?_) ?_
  · refine lpX5_lowerToEntry_17 C D (fun z h' l0 l1 l2 l3 l4 l5 l6 l8 l10 l12 l14 => ∃ j, z = V.length - j ∧ j ≤ V.length ∧ h' = h ∧ l0 = some a ∧ l1 = x ∧ l2 = y ∧ l3 = dx ∧ l4 = dy ∧ l5 = some b ∧ l14 = Int32.ofNat j ∧ entGo V x y dx dy (V.length - j) j (l6, l8, l10, l12) = entGo V x y dx dy V.length 0 (-1, 0, 1, 0)) (fun z h' l0 l1 l2 l3 l4 l5 l6 l8 l10 l12 l14 hI => ?_) z h' l0 l1 l2 l3 l4 l5 l6 l8 l10 l12 l14 hz
    obtain ⟨j, rfl, hj, rfl, rfl, rfl, rfl, rfl, rfl, rfl, rfl, hg⟩ := hI
    unfold PX5_lowerToEntry_17
    refine (rdI_iff h1).mpr ⟨_, rfl, fun c => ?_, fun c => ?_⟩
    · have hjj : j = V.length := by have := (i32_le (by omega) (by omega)).mp c; omega
      subst hjj
      rw [Nat.sub_self] at hg
      have hg : entGo V l1 l2 l3 l4 V.length 0 (-1, 0, 1, 0) = some (l6, l8, l10, l12) := hg.symm
      have he : entP V l1 l2 l3 l4 = if 0 < l10 ∧ l6 * l12 < l10 * l8 then some (if 0 < l6 then l6 else 0, l8) else none := by unfold entP; rw [hg]
      refine ⟨fun c1 => ?_, fun c1 => ⟨fun c2 v2 e2 => ?_, fun c2 => ?_⟩⟩
      · have he : entP V l1 l2 l3 l4 = none := by rw [he, if_neg (fun q => (lg_le.mp c1) q.1)]
        rw [he]
        exact ⟨_, rfl, rfl, G, Fr.refl⟩
      · have he : entP V l1 l2 l3 l4 = some (if 0 < l6 then l6 else 0, l8) := by rw [he, if_pos ⟨Decidable.of_not_not (mt lg_le.mpr c1), lg_lt.mp c2⟩]
        rw [he, ← e2]
        exact cvIq G (s0_lowerTo G _ _) fun r h2 ⟨_, G2, f2⟩ => ⟨_, rfl, rfl, G2, f2⟩
      · have he : entP V l1 l2 l3 l4 = none := by rw [he, if_neg (fun q => c2 (lg_lt.mpr q.2))]
        rw [he]
        exact ⟨_, rfl, rfl, G, Fr.refl⟩
    · have hjj : j < V.length := by have := mt (i32_le (i := V.length) (j := j) (by omega) (by omega)).mpr c; omega
      obtain ⟨t, ht⟩ : ∃ t, V.length - j = t + 1 := ⟨V.length - j - 1, by omega⟩
      rw [ht] at hg ⊢
      rw [entGo_succ] at hg
      refine cvI h1 (s5_side H hjj _ _) (cvI h1 (s5_side H hjj _ _) fun v7 e7 => ?_)
      rw [← e7] at hg
      have go : ¬ (v7 = 0 ∧ ¬ 0 < (sideP V j l1 l2).toInt64) → PX5_lowerToEntry_72 E (kI fun r h'' => r = (if (entP V l1 l2 l3 l4).isSome = true then 1 else 0) ∧ FrAt h'' b (lowO f (entP V l1 l2 l3 l4)) ∧ Fr b (b + 1) h' h'') (fun h'' l0 l1' l2' l3' l4' l5 l6 l8 l10 l12 l14 => ∃ z', z' < t + 1 ∧ ∃ j', z' = V.length - j' ∧ j' ≤ V.length ∧ h'' = h' ∧ l0 = some a ∧ l1' = l1 ∧ l2' = l2 ∧ l3' = l3 ∧ l4' = l4 ∧ l5 = some b ∧ l14 = Int32.ofNat j' ∧ entGo V l1 l2 l3 l4 (V.length - j') j' (l6, l8, l10, l12) = entGo V l1 l2 l3 l4 V.length 0 (-1, 0, 1, 0)) h' (some a) l1 l2 l3 l4 (some b) l6 l8 l10 l12 (Int32.ofNat j) (sideP V j l1 l2).toInt64 v7 := fun cc => by
        rw [if_neg cc] at hg
        generalize hs : (sideP V j l1 l2).toInt64 = s at *
        have ht2 : V.length - (j + 1) = t := by omega
        have fin : ∀ q1 q2 q3 q4 : Int64, (q1, q2, q3, q4) = entUp (l6, l8, l10, l12) s v7 → ∃ z', z' < t + 1 ∧ ∃ j', z' = V.length - j' ∧ j' ≤ V.length ∧ h' = h' ∧ some a = some a ∧ l1 = l1 ∧ l2 = l2 ∧ l3 = l3 ∧ l4 = l4 ∧ some b = some b ∧ Int32.ofNat j + 1 = Int32.ofNat j' ∧ entGo V l1 l2 l3 l4 (V.length - j') j' (q1, q2, q3, q4) = entGo V l1 l2 l3 l4 V.length 0 (-1, 0, 1, 0) := fun q1 q2 q3 q4 e =>
          ⟨t, by omega, j + 1, by omega, hjj, rfl, rfl, rfl, rfl, rfl, rfl, rfl, i32_s j, by rw [ht2, e]; exact hg⟩
        have t103 : ∀ q1 q2 : Int64, (q1, q2) = (if 0 < v7 ∧ l6 * v7 < -s * l8 then -s else l6, if 0 < v7 ∧ l6 * v7 < -s * l8 then v7 else l8) → PX5_lowerToEntry_103 E (kI fun r h'' => r = (if (entP V l1 l2 l3 l4).isSome = true then 1 else 0) ∧ FrAt h'' b (lowO f (entP V l1 l2 l3 l4)) ∧ Fr b (b + 1) h' h'') (fun h'' l0 l1' l2' l3' l4' l5 l6 l8 l10 l12 l14 => ∃ z', z' < t + 1 ∧ ∃ j', z' = V.length - j' ∧ j' ≤ V.length ∧ h'' = h' ∧ l0 = some a ∧ l1' = l1 ∧ l2' = l2 ∧ l3' = l3 ∧ l4' = l4 ∧ l5 = some b ∧ l14 = Int32.ofNat j' ∧ entGo V l1 l2 l3 l4 (V.length - j') j' (l6, l8, l10, l12) = entGo V l1 l2 l3 l4 V.length 0 (-1, 0, 1, 0)) h' (some a) l1 l2 l3 l4 (some b) q1 q2 l10 l12 (Int32.ofNat j) s v7 := fun q1 q2 e => by
          unfold PX5_lowerToEntry_103
          cases e
          refine ⟨fun c1 => fin _ _ _ _ ?_, fun c1 => ⟨fun c2 => fin _ _ _ _ ?_, fun c2 v2 e2 => fin _ _ _ _ ?_⟩⟩
          · have n1 : ¬ v7 < 0 := lg_ge.mp c1
            simp only [entUp, n1, false_and, if_false]
          · have n1 : ¬ s * l12 < l10 * -v7 := lg_ge.mp c2
            simp only [entUp, n1, and_false, if_false]
          · have n1 : v7 < 0 := Decidable.of_not_not (mt lg_ge.mpr c1)
            have n2 : s * l12 < l10 * -v7 := Decidable.of_not_not (mt lg_ge.mpr c2)
            simp only [entUp, n1, n2, and_self, if_true, e2]
        unfold PX5_lowerToEntry_72
        refine ⟨fun c1 => t103 _ _ ?_, fun c1 => ⟨fun c2 => t103 _ _ ?_, fun c2 v1 e1 => t103 _ _ ?_⟩⟩
        · have n1 : ¬ 0 < v7 := lg_le.mp c1
          simp only [n1, false_and, if_false]
        · have n1 : ¬ l6 * v7 < -s * l8 := lg_le.mp c2
          simp only [n1, and_false, if_false]
        · have n1 : 0 < v7 := Decidable.of_not_not (mt lg_le.mpr c1)
          have n2 : l6 * v7 < -s * l8 := Decidable.of_not_not (mt lg_le.mpr c2)
          simp only [n1, n2, and_self, if_true, e1]
      refine ⟨fun c1 => go (fun q => c1 (lg_eq0.mpr q.1)), fun c1 => ⟨fun c2 => go (fun q => q.2 (lg_gt.mp c2)), fun c2 => ?_⟩⟩
      rw [if_pos ⟨lg_eq0.mp c1, fun q => c2 (lg_gt.mpr q)⟩] at hg
      have he : entP V l1 l2 l3 l4 = none := by unfold entP; rw [← hg]
      rw [he]
      exact ⟨_, rfl, rfl, G, Fr.refl⟩
  · unfold PX5_lowerToEntry_0
    exact ⟨V.length, 0, rfl, Nat.zero_le _, rfl, rfl, rfl, rfl, rfl, rfl, rfl, rfl, by rw [Nat.sub_zero]⟩
end PQ
