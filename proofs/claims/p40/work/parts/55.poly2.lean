section PP
variable {E : EV} {h : AH} {a : Nat} {V : List PT}
theorem s5_add (H : PolyAt h a V) (hl18 : V.length < 18) (x y : Int32) : sX5_add E [aP (some a), aI x, aI y] h (kV fun h' => PolyAt h' a (V ++ [(x, y)]) ∧ Fr a (a + 3) h h') := by
  have H0 := H
  obtain ⟨lw, l, b, r, t, xs, ys, h1, h2, h3, h4, ag, hf⟩ := H
  refine eX5_add ?_
  unfold PX5_add_0
  refine (rdI_iff h1).mpr ⟨_, rfl, fun c => absurd c (i32_nn (by omega)), fun _ => (rdI_iff h1).mpr ⟨_, rfl, (rdP_iff h1).mpr ⟨_, rfl, (alenI_iff h2.1).mpr ?_⟩⟩⟩
  rw [h2.2]
  refine ⟨fun c => absurd ((i32_le (by omega) (by omega)).mp c) (by omega), fun _ => (rdI_iff h1).mpr ⟨_, rfl, (rdP_iff h1).mpr ⟨_, rfl, (alenI_iff h3.1).mpr ?_⟩⟩⟩
  rw [h3.2]
  refine ⟨fun _ => ?_, fun c => absurd ((i32_ltn (by omega) (by omega)).mpr hl18) c⟩
  refine (rdP_iff h1).mpr ⟨_, rfl, (rdI_iff h1).mpr ⟨_, rfl, ⟨_, _, rfl, h2.1, i32_nn (by omega), by rw [i32_n (by omega), h2.2]; exact hl18, ?_⟩⟩⟩
  have g1 := gsn (x := .inl (0, xs.set V.length x)) (show a + 1 ≠ a by omega) h1
  have g3 := gsn (x := .inl (0, xs.set V.length x)) (show a + 1 ≠ a + 2 by omega) h3.1
  rw [i32_n (by omega)]
  refine (rdP_iff g1).mpr ⟨_, rfl, (rdI_iff g1).mpr ⟨_, rfl, ⟨_, _, rfl, g3, i32_nn (by omega), by rw [i32_n (by omega), h3.2]; exact hl18, ?_⟩⟩⟩
  rw [i32_n (by omega)]
  generalize hh2 : List.set (h.set (a + 1) (.inl (0, xs.set V.length x))) (a + 2) (.inl (0, ys.set V.length y)) = k
  have k1 : k[a]? = some (.inr (5, [aP (some (a + 1)), aP (some (a + 2)), aI (Int32.ofNat V.length), aI lw, aI l, aI b, aI r, aI t])) := by rw [← hh2]; exact gsn (by omega) g1
  have k2 : k[a + 1]? = some (.inl (0, xs.set V.length x)) := by rw [← hh2]; exact gsn (by omega) (gs h2.1)
  have k3 : k[a + 2]? = some (.inl (0, ys.set V.length y)) := by rw [← hh2]; exact gs g3
  have fk : Fr a (a + 3) h k := by rw [← hh2]; exact (Fr.set (by omega) (by omega)).trans (Fr.set (by omega) (by omega))
  have agk : ∀ j, j < (V ++ [(x, y)]).length → ((xs.set V.length x).getD j 0, (ys.set V.length y).getD j 0) = (V ++ [(x, y)]).getD j (0, 0) := fun j hj => by
    rw [getD_set, getD_set, getD_app, h2.2, h3.2]
    simp at hj
    by_cases c : j < V.length
    · rw [if_pos c, if_neg (by omega), if_neg (by omega)]; exact ag j c
    · have : j = V.length := by omega
      subst this
      simp [hl18]
  have hlen : (V ++ [(x, y)]).length = V.length + 1 := by simp
  have fin : ∀ (h' : AH) (lw' l' b' r' t' : Int32), h'[a]? = some (.inr (5, [aP (some (a + 1)), aP (some (a + 2)), aI (Int32.ofNat V.length + 1), aI lw', aI l', aI b', aI r', aI t'])) → Fr a (a + 1) k h' → (lw', l', b', r', t') = (Int32.ofNat (low (V ++ [(x, y)])), (pfold (V ++ [(x, y)])).2.2.2) → PolyAt h' a (V ++ [(x, y)]) ∧ Fr a (a + 3) h h' := fun h' lw' l' b' r' t' q1 q2 q3 =>
    ⟨⟨lw', l', b', r', t', _, _, by rw [hlen, ← i32_s]; exact q1, ⟨(q2.2 _ (by omega)).trans k2, by rw [List.length_set]; exact h2.2⟩, ⟨(q2.2 _ (by omega)).trans k3, by rw [List.length_set]; exact h3.2⟩, by omega, agk, fun _ => q3⟩, fk.trans (q2.weak (by omega) (by omega))⟩
  have tail : ∀ (k' : AH) (lw' f : Int32), k'[a]? = some (.inr (5, [aP (some (a + 1)), aP (some (a + 2)), aI (Int32.ofNat V.length), aI lw', aI l, aI b, aI r, aI t])) → Fr a (a + 1) k k' → (lw', (if f = 0 then (if l ≤ x then l else x) else x), (if f = 0 then (if b ≤ y then b else y) else y), (if f = 0 then (if x ≤ r then r else x) else x), (if f = 0 then (if y ≤ t then t else y) else y)) = (Int32.ofNat (low (V ++ [(x, y)])), (pfold (V ++ [(x, y)])).2.2.2) → PX5_add_102 E (kV fun h' => PolyAt h' a (V ++ [(x, y)]) ∧ Fr a (a + 3) h h') k' (some a) x y f := by
    intro k' lw' f q1 q2 q3
    refine add_102 q1 rfl (add_123 q1 rfl rfl (add_147 (gs q1) rfl rfl (add_171 (gs (gs q1)) rfl rfl (add_195 (gs (gs (gs q1))) rfl rfl ⟨rfl, fin _ _ _ _ _ _ (gs (gs (gs (gs q1)))) ?_ q3⟩))))
    exact (((q2.trans (Fr.set (Nat.le_refl a) (by omega))).trans (Fr.set (Nat.le_refl a) (by omega))).trans (Fr.set (Nat.le_refl a) (by omega))).trans (Fr.set (Nat.le_refl a) (by omega))
  have t94 : ∀ f, (Int32.ofNat V.length, (if f = 0 then (if l ≤ x then l else x) else x), (if f = 0 then (if b ≤ y then b else y) else y), (if f = 0 then (if x ≤ r then r else x) else x), (if f = 0 then (if y ≤ t then t else y) else y)) = (Int32.ofNat (low (V ++ [(x, y)])), (pfold (V ++ [(x, y)])).2.2.2) → PX5_add_94 E (kV fun h' => PolyAt h' a (V ++ [(x, y)]) ∧ Fr a (a + 3) h h') k (some a) x y f := fun f q3 => by
    unfold PX5_add_94
    exact (rdI_iff k1).mpr ⟨_, rfl, (wr_iff k1).mpr ⟨Nat.le_of_ble_eq_true rfl, tail _ _ f (gs k1) (Fr.set (Nat.le_refl a) (by omega)) q3⟩⟩
  have hn := pfold_n V
  refine (rdI_iff k1).mpr ⟨_, rfl, fun c => ?_, fun c => ?_⟩
  · have hne : V ≠ [] := fun q => c (by rw [q]; rfl)
    have hn0 : ¬ V.length = 0 := fun q => hne (List.eq_nil_of_length_eq_zero q)
    obtain ⟨l1, l2⟩ := pfold_low V hne
    have hq := hf hne
    simp only [Prod.mk.injEq] at hq
    obtain ⟨e1, e2, e3, e4, e5⟩ := show lw = Int32.ofNat (low V) ∧ l = (pfold V).2.2.2.1 ∧ b = (pfold V).2.2.2.2.1 ∧ r = (pfold V).2.2.2.2.2.1 ∧ t = (pfold V).2.2.2.2.2.2 by
      have := hf hne
      refine ⟨congrArg (·.1) this, congrArg (·.2.1) this, congrArg (·.2.2.1) this, congrArg (·.2.2.2.1) this, congrArg (·.2.2.2.2) this⟩
    have hv0 : (vAt V 0).1 = (pfold V).2.2.1 := by
      unfold vAt
      rw [Nat.add_zero, if_pos l1]; exact l2.symm
    unfold PX5_add_64
    refine ⟨fun c0 => absurd rfl c0, fun _ => (rdI_iff k1).mpr ⟨_, rfl, fun c1 => t94 0 ?_, fun c1 => (rdI_iff k1).mpr ⟨_, rfl, fun c2 => tail k lw 0 k1 Fr.refl ?_, fun c2 => ?_⟩⟩⟩
    · unfold low
      rw [pfold_snoc]
      simp only [pstep, hn, hn0, if_false, if_true]
      rw [← e2, ← e3, ← e4, ← e5, if_pos c1]
    · unfold low
      rw [pfold_snoc]
      simp only [pstep, hn, hn0, if_false, if_true]
      have q0 : ¬ (y = b ∧ ¬ (pfold V).2.2.1 ≤ x) := fun q => c2 q.1
      rw [← e2, ← e3, ← e4, ← e5, if_neg c1, if_neg q0]
      rw [e1]; rfl
    · have HK : PolyAt k a V := ⟨lw, l, b, r, t, _, _, k1, ⟨k2, by rw [List.length_set]; exact h2.2⟩, ⟨k3, by rw [List.length_set]; exact h3.2⟩, h4, fun j hj => by
        rw [getD_set, getD_set, if_neg (by omega), if_neg (by omega)]; exact ag j hj, hf⟩
      refine cvI k1 (s5_x HK hne (k := 0) (Nat.zero_le _)) ⟨fun c3 => tail k lw 0 k1 Fr.refl ?_, fun c3 => t94 0 ?_⟩
      · rw [hv0] at c3
        unfold low
        rw [pfold_snoc]
        simp only [pstep, hn, hn0, if_false, if_true]
        have q0 : ¬ (y = b ∧ ¬ (pfold V).2.2.1 ≤ x) := fun q => q.2 c3
        rw [← e2, ← e3, ← e4, ← e5, if_neg c1, if_neg q0]
        rw [e1]; rfl
      · rw [hv0] at c3
        unfold low
        rw [pfold_snoc]
        simp only [pstep, hn, hn0, if_false, if_true]
        have q0 : y = b ∧ ¬ (pfold V).2.2.1 ≤ x := ⟨c2, c3⟩
        rw [← e2, ← e3, ← e4, ← e5, if_neg c1, if_pos q0]
  · have hn0 : V.length = 0 := by
      have : Int32.ofNat V.length = Int32.ofNat 0 := c
      have := congrArg Int32.toInt this
      rw [i32_lt (by omega), i32_lt (by omega)] at this; omega
    unfold PX5_add_64
    refine ⟨fun _ => t94 1 ?_, fun c0 => absurd c0 (by decide)⟩
    unfold low
    rw [pfold_snoc]
    simp only [pstep, hn, hn0, if_true]
    rw [if_neg (by decide), if_neg (by decide), if_neg (by decide), if_neg (by decide)]
/-- which side of an edge -/
def sideP (V : List PT) (k : Nat) (x y : Int32) : Int32 := ((vAt V (k + 1)).1 - (vAt V k).1) * (y - (vAt V k).2) - ((vAt V (k + 1)).2 - (vAt V k).2) * (x - (vAt V k).1)
theorem s5_side (H : PolyAt h a V) {k : Nat} (hk : k < V.length) (x y : Int32) : sX5_side E [aP (some a), aI (Int32.ofNat k), aI x, aI y] h (kI fun r h' => r = sideP V k x y ∧ h' = h) := by
  have hne : V ≠ [] := fun q => by rw [q] at hk; simp at hk
  obtain ⟨lw, l, b, r, t, xs, ys, h1, -⟩ := id H
  refine eX5_side ?_
  unfold PX5_side_0
  rw [i32_s]
  refine cvI h1 (s5_x H hne (by omega)) (cvI h1 (s5_x H hne (by omega)) fun v5 e5 => cvI h1 (s5_y H hne (by omega)) (cvI h1 (s5_y H hne (by omega)) fun v10 e10 => cvI h1 (s5_y H hne (by omega)) (cvI h1 (s5_x H hne (by omega)) ⟨_, rfl, ?_, rfl⟩)))
  rw [e5, e10]; rfl
end PP
