/-! shapes: vertices added; copies and turns -/
abbrev so (a : Nat) (np n l b r t : Int32) : AE := .inr (6, [aP (some (a + 1)), aP (some (a + 2)), aP (some (a + 3)), aI np, aI n, aI l, aI b, aI r, aI t])
section SV
variable {E : EV} {h : AH} {a : Nat} {np n l b r t x y v : Int32} {post : Option AV → AH → Prop}
theorem av141 (H : h[a]? = some (so a np n l b r t)) (k : post none (h.set a (so a np (n + 1) l b r v))) : PX6_addVertex_141 E post h (some a) (some a) v := by
  unfold PX6_addVertex_141
  exact (wr_iff H).mpr ⟨Nat.le_of_ble_eq_true rfl, (rdI_iff (gs H)).mpr ⟨_, rfl, (wr_iff (gs H)).mpr ⟨Nat.le_of_ble_eq_true rfl, by rw [List.set_set]; exact k⟩⟩⟩
theorem av118 (H : h[a]? = some (so a np n l b r t)) (k : post none (h.set a (so a np (n + 1) l b v (if n = 0 then y else if y ≤ t then t else y)))) : PX6_addVertex_118 E post h (some a) y (some a) v := by
  unfold PX6_addVertex_118
  have G : (h.set a (so a np n l b v t))[a]? = some (so a np n l b v t) := gs H
  refine (wr_iff H).mpr ⟨Nat.le_of_ble_eq_true rfl, (rdI_iff G).mpr ⟨_, rfl, fun c => (rdI_iff G).mpr ⟨_, rfl, fun v4 e4 => av141 G ?_⟩, fun c => av141 G ?_⟩⟩
  · rw [List.set_set, e4]; rw [if_neg c] at k
    by_cases q : t < y
    · rw [if_pos q]; rw [if_neg (i32_not_le.mpr q)] at k; exact k
    · rw [if_neg q]; rw [if_pos (i32_not_lt.mp q)] at k; exact k
  · rw [List.set_set]; rw [if_pos c] at k; exact k
theorem av95 (H : h[a]? = some (so a np n l b r t)) (k : post none (h.set a (so a np (n + 1) l v (if n = 0 then x else if x ≤ r then r else x) (if n = 0 then y else if y ≤ t then t else y)))) : PX6_addVertex_95 E post h (some a) x y (some a) v := by
  unfold PX6_addVertex_95
  have G : (h.set a (so a np n l v r t))[a]? = some (so a np n l v r t) := gs H
  refine (wr_iff H).mpr ⟨Nat.le_of_ble_eq_true rfl, (rdI_iff G).mpr ⟨_, rfl, fun c => (rdI_iff G).mpr ⟨_, rfl, fun v4 e4 => av118 G ?_⟩, fun c => av118 G ?_⟩⟩
  · rw [List.set_set, e4]; rw [if_neg c] at k
    by_cases q : r < x
    · rw [if_pos q]; rw [if_neg (i32_not_le.mpr q)] at k; exact k
    · rw [if_neg q]; rw [if_pos (i32_not_lt.mp q)] at k; exact k
  · rw [List.set_set]; rw [if_pos c] at k; exact k
theorem av72 (H : h[a]? = some (so a np n l b r t)) (k : post none (h.set a (so a np (n + 1) v (if n = 0 then y else if b ≤ y then b else y) (if n = 0 then x else if x ≤ r then r else x) (if n = 0 then y else if y ≤ t then t else y)))) : PX6_addVertex_72 E post h (some a) x y (some a) v := by
  unfold PX6_addVertex_72
  have G : (h.set a (so a np n v b r t))[a]? = some (so a np n v b r t) := gs H
  refine (wr_iff H).mpr ⟨Nat.le_of_ble_eq_true rfl, (rdI_iff G).mpr ⟨_, rfl, fun c => (rdI_iff G).mpr ⟨_, rfl, fun v4 e4 => av95 G ?_⟩, fun c => av95 G ?_⟩⟩
  · rw [List.set_set, e4]; rw [if_neg c] at k
    by_cases q : y < b
    · rw [if_pos q]; rw [if_neg (i32_not_le.mpr q)] at k; exact k
    · rw [if_neg q]; rw [if_pos (i32_not_lt.mp q)] at k; exact k
  · rw [List.set_set]; rw [if_pos c] at k; exact k
end SV
theorem take_snoc {α β : Type} {Q : List α} {f : α → β} {d : α} {j : Nat} (hj : j < Q.length) : (Q.take j).map f ++ [f (Q.getD j d)] = (Q.take (j + 1)).map f := by
  rw [List.take_add_one, List.getElem?_eq_getElem hj, List.getD_eq_getElem?_getD, List.getElem?_eq_getElem hj, List.map_append]; rfl
section S2
variable {E : EV} {h : AH} {a p q : Nat} {S S2 : List (List PT)} {W V : List PT}
theorem s6_addVertex (H : ShO h a S W) (hl : (S.flatten ++ W).length < 18) (x y : Int32) : sX6_addVertex E [aP (some a), aI x, aI y] h (kV fun h' => ShO h' a S (W ++ [(x, y)]) ∧ Fr a (a + 4) h h') := by
  obtain ⟨l, b, r, t, st, xs, ys, h1, h2, h3, h4, h5, h6, h7, h8, h9⟩ := H
  refine eX6_addVertex ?_
  unfold PX6_addVertex_0
  generalize hT : S.flatten ++ W = T at *
  have hT2 : S.flatten ++ (W ++ [(x, y)]) = T ++ [(x, y)] := by rw [← hT, List.append_assoc]
  refine (rdI_iff h1).mpr ⟨_, rfl, fun c => absurd c (i32_nn (by omega)), fun _ => (rdI_iff h1).mpr ⟨_, rfl, (rdP_iff h1).mpr ⟨_, rfl, (alenI_iff h3.1).mpr ?_⟩⟩⟩
  rw [h3.2]
  refine ⟨fun c => absurd ((i32_le (by omega) (by omega)).mp c) (by omega), fun _ => (rdI_iff h1).mpr ⟨_, rfl, (rdP_iff h1).mpr ⟨_, rfl, (alenI_iff h4.1).mpr ?_⟩⟩⟩
  rw [h4.2]
  refine ⟨fun _ => ?_, fun c => absurd ((i32_ltn (by omega) (by omega)).mpr hl) c⟩
  refine (rdP_iff h1).mpr ⟨_, rfl, (rdI_iff h1).mpr ⟨_, rfl, ⟨_, _, rfl, h3.1, i32_nn (by omega), by rw [i32_n (by omega), h3.2]; exact hl, ?_⟩⟩⟩
  have g1 := gsn (x := .inl (0, xs.set T.length x)) (show a + 2 ≠ a by omega) h1
  have g3 := gsn (x := .inl (0, xs.set T.length x)) (show a + 2 ≠ a + 3 by omega) h4.1
  rw [i32_n (by omega)]
  refine (rdP_iff g1).mpr ⟨_, rfl, (rdI_iff g1).mpr ⟨_, rfl, ⟨_, _, rfl, g3, i32_nn (by omega), by rw [i32_n (by omega), h4.2]; exact hl, ?_⟩⟩⟩
  rw [i32_n (by omega)]
  generalize hh2 : List.set (h.set (a + 2) (.inl (0, xs.set T.length x))) (a + 3) (.inl (0, ys.set T.length y)) = k
  have k1 : k[a]? = some (so a (Int32.ofNat S.length) (Int32.ofNat T.length) l b r t) := by rw [← hh2]; exact gsn (by omega) g1
  have k0 : k[a + 1]? = some (.inl (0, st)) := by rw [← hh2]; exact gsn (by omega) (gsn (by omega) h2.1)
  have k2 : k[a + 2]? = some (.inl (0, xs.set T.length x)) := by rw [← hh2]; exact gsn (by omega) (gs h3.1)
  have k3 : k[a + 3]? = some (.inl (0, ys.set T.length y)) := by rw [← hh2]; exact gs g3
  have fk : Fr a (a + 4) h k := by rw [← hh2]; exact (Fr.set (by omega) (by omega)).trans (Fr.set (by omega) (by omega))
  have hn := pfold_n T
  have fin : ∀ l' b' r' t', (l', b', r', t') = (pfold (T ++ [(x, y)])).2.2.2 → kV (fun h' => ShO h' a S (W ++ [(x, y)]) ∧ Fr a (a + 4) h h') none (k.set a (so a (Int32.ofNat S.length) (Int32.ofNat T.length + 1) l' b' r' t')) := fun l' b' r' t' e =>
    ⟨rfl, ⟨l', b', r', t', st, _, _, by rw [hT2, List.length_append, List.length_singleton, ← i32_s]; exact gs k1, ⟨gsn (by omega) k0, h2.2⟩, ⟨gsn (by omega) k2, by rw [List.length_set]; exact h3.2⟩, ⟨gsn (by omega) k3, by rw [List.length_set]; exact h4.2⟩, h5, by rw [hT2]; simp; omega, h7, fun j hj => by
      rw [hT2, List.length_append, List.length_singleton] at hj
      rw [hT2, getD_set, getD_set, getD_app, h3.2, h4.2]
      by_cases c : j < T.length
      · rw [if_pos c, if_neg (by omega), if_neg (by omega)]; exact h8 j c
      · have : j = T.length := by omega
        subst this
        simp [hl], fun _ => by rw [hT2]; exact e⟩, fk.trans (Fr.set (by omega) (by omega))⟩
  have tail : ∀ v : Int32, v = (if T.length = 0 then x else if l ≤ x then l else x) → PX6_addVertex_72 E (kV fun h' => ShO h' a S (W ++ [(x, y)]) ∧ Fr a (a + 4) h h') k (some a) x y (some a) v := fun v e => by
    refine av72 k1 (fin _ _ _ _ ?_)
    rw [pfold_snoc]
    simp only [pstep, hn]
    by_cases c : T.length = 0
    · have c3 : Int32.ofNat T.length = 0 := by rw [c]; rfl
      rw [e]
      simp only [if_pos c, if_pos c3]
    · have hne : T ≠ [] := fun q => c (by rw [q]; rfl)
      have c2 : ¬ Int32.ofNat T.length = 0 := fun q => c (i32_inj (m := T.length) (n := 0) (by omega) (by omega) q)
      have e9 := h9 hne
      obtain ⟨e1, e2, e3, e4⟩ : l = (pfold T).2.2.2.1 ∧ b = (pfold T).2.2.2.2.1 ∧ r = (pfold T).2.2.2.2.2.1 ∧ t = (pfold T).2.2.2.2.2.2 := ⟨congrArg (·.1) e9, congrArg (·.2.1) e9, congrArg (·.2.2.1) e9, congrArg (·.2.2.2) e9⟩
      simp only [c, c2, if_false]
      rw [e, if_neg c, e1, e2, e3, e4]
  refine (rdI_iff k1).mpr ⟨_, rfl, fun c => (rdI_iff k1).mpr ⟨_, rfl, fun v16 e16 => tail _ ?_⟩, fun c => tail _ ?_⟩
  · have c2 : ¬ T.length = 0 := fun q => c (by rw [q]; rfl)
    rw [if_neg c2, e16]
    by_cases q : x < l
    · rw [if_pos q, if_neg (i32_not_le.mpr q)]
    · rw [if_neg q, if_pos (i32_not_lt.mp q)]
  · have c2 : T.length = 0 := i32_inj (m := T.length) (n := 0) (by omega) (by omega) c
    rw [if_pos c2]
theorem s6_addPiece (H : ShO h a S []) (P : PolyAt h p V) (d : p + 3 ≤ a ∨ a + 4 ≤ p) (hS : S.length < 3) (hl : S.flatten.length + V.length ≤ 18) : sX6_addPiece E [aP (some a), aP (some p)] h (kV fun h' => ShAt h' a (S ++ [rotP V]) ∧ Fr a (a + 4) h h') := by
  refine uX6_addPiece (fun m h' l0 l1 l2 => ∃ j, m = V.length - j ∧ j ≤ V.length ∧ l0 = some a ∧ l1 = some p ∧ l2 = Int32.ofNat j ∧ ShO h' a S ((List.range j).map (vAt V)) ∧ Fr a (a + 4) h h') ⟨_, 0, rfl, Nat.zero_le _, rfl, rfl, rfl, H, Fr.refl⟩ ?_
  rintro m h' l0 l1 l2 ⟨j, rfl, hj, rfl, rfl, rfl, H', f⟩
  have P' := P.fr f (by omega)
  obtain ⟨_, _, _, _, _, _, _, h1, -, -, h4, -⟩ := id P'
  obtain ⟨fs, g1⟩ := H'.ad
  unfold PX6_addPiece_2
  refine (rdI_iff h1).mpr ⟨_, rfl, fun c => ?_, fun c => ?_⟩
  · have hjj : j = V.length := by have := (i32_le (by omega) (by omega)).mp c; omega
    subst hjj
    exact cvVq g1 (s6_endPiece H' hS) fun h2 q => ⟨rfl, q.1, f.trans q.2⟩
  · have hjj : j < V.length := by have := mt (i32_le (i := V.length) (j := j) (by omega) (by omega)).mpr c; omega
    have hne : V ≠ [] := fun q => by rw [q] at hjj; simp at hjj
    refine cvI h1 (s5_x P' hne (by omega)) (cvI h1 (s5_y P' hne (by omega)) (cvVq g1 (s6_addVertex H' (by rw [List.length_append, List.length_map, List.length_range]; omega) _ _) fun h2 q => ?_))
    exact ⟨V.length - (j + 1), by omega, j + 1, rfl, hjj, rfl, rfl, i32_s j, by rw [List.range_succ, List.map_append]; exact q.1, f.trans q.2⟩
theorem s6_copyPiece (H : ShO h a S W) (P : PolyAt h p V) (d : p + 3 ≤ a ∨ a + 4 ≤ p) {i : Nat} (hi : i < S.length) (t : Int32) : sX6_copyPiece E [aP (some a), aI (Int32.ofNat i), aI t, aP (some p)] h (kV fun h' => PolyAt h' p ((S.getD i []).map (trP t)) ∧ Fr p (p + 3) h h') := by
  have hl := H.lens
  have hfl := take_fl hi
  have hT : (S.take (i + 1)).flatten.length ≤ 18 := by
    have h2 : (S.take (i + 1)).flatten.length ≤ S.flatten.length := by
      have := List.take_append_drop (i + 1) S
      calc (S.take (i + 1)).flatten.length ≤ ((S.take (i + 1)).flatten ++ (S.drop (i + 1)).flatten).length := by simp
        _ = S.flatten.length := by rw [← List.flatten_append, this]
    simp at hl; simp; simp at h2; omega
  generalize hs : (S.take i).flatten.length = s at *
  generalize hQ : S.getD i [] = Q at *
  refine uX6_copyPiece (fun m h' l0 l1 l2 l3 l4 => ∃ j, m = Q.length - j ∧ j ≤ Q.length ∧ l0 = some a ∧ l1 = Int32.ofNat i ∧ l2 = t ∧ l3 = some p ∧ l4 = Int32.ofNat (s + j) ∧ PolyAt h' p ((Q.take j).map (trP t)) ∧ Fr p (p + 3) h h') ?_ ?_
  · unfold PX6_copyPiece_0
    obtain ⟨_, g1⟩ := P.ad
    refine cvVq g1 (s5_clear P) fun h2 q => ?_
    have H' := H.fr q.2 (by omega)
    obtain ⟨_, g2⟩ := H'.ad
    exact cvI g2 (s6_start H' (by omega)) ⟨_, 0, rfl, Nat.zero_le _, rfl, rfl, rfl, rfl, by rw [hs]; rfl, q.1, q.2⟩
  · rintro m h' l0 l1 l2 l3 l4 ⟨j, rfl, hj, rfl, rfl, rfl, rfl, rfl, P', f⟩
    have H' := H.fr f (by omega)
    obtain ⟨_, g1⟩ := H'.ad
    obtain ⟨_, g2⟩ := P'.ad
    unfold PX6_copyPiece_11
    rw [i32_s]
    refine cvI g1 (s6_start H' (by omega)) ⟨fun c => ?_, fun c => ?_⟩
    · have hjj : j = Q.length := by
        have := (i32_le (by omega) (by omega)).mp c; omega
      subst hjj
      rw [List.take_length] at P'
      exact ⟨rfl, P', f⟩
    · have hjj : j < Q.length := by
        have := mt (i32_le (i := (S.take (i + 1)).flatten.length) (j := s + j) (by omega) (by omega)).mpr c; omega
      have hlt : s + j < (S.flatten ++ W).length := by
        have := fl_lt hi (j := j) (by rw [hQ]; exact hjj)
        rw [hs] at this
        rw [List.length_append]; omega
      have hg : (S.flatten ++ W).getD (s + j) (0, 0) = Q.getD j (0, 0) := by
        have := fl_getD (W := W) hi (j := j) (by rw [hQ]; exact hjj)
        rw [hs, hQ] at this; exact this
      have hadd : (Q.take j).map (trP l2) ++ [trP l2 (Q.getD j (0, 0))] = (Q.take (j + 1)).map (trP l2) := take_snoc hjj
      refine cvI g1 (s6_x H' hlt) (cvI g1 (s6_y H' hlt) (csI (s6_turnedX _ _ _) (cvI g1 (s6_x H' hlt) (cvI g1 (s6_y H' hlt) (csI (s6_turnedY _ _ _) (cvVq g2 (s5_add P' (by simp; omega) _ _) fun h2 q => ?_))))))
      refine ⟨Q.length - (j + 1), by omega, j + 1, rfl, hjj, rfl, rfl, rfl, rfl, by rw [i32_s]; rfl, ?_, f.trans q.2⟩
      rw [← hadd, ← hg]; exact q.1
theorem s6_setTurned (H : ShO h a S W) (G : ShAt h q S2) (d : q + 4 ≤ a ∨ a + 4 ≤ q) (t : Int32) : sX6_setTurned E [aP (some a), aP (some q), aI t] h (kV fun h' => ShAt h' a (S2.map (fun P => P.map (trP t))) ∧ Fr a (a + 4) h h') := by
  have hl := G.lens
  rw [List.append_nil] at hl
  have mapfl : ∀ L : List (List PT), ((L.map (fun P => P.map (trP t))).flatten).length = L.flatten.length := fun L => by
    induction L with
    | nil => rfl
    | cons x L ih => simp only [List.map_cons, List.flatten_cons, List.length_append, ih, List.length_map]
  have tk : ∀ i, i < S2.length → (S2.take (i + 1)).map (fun P => P.map (trP t)) = (S2.take i).map (fun P => P.map (trP t)) ++ [(S2.getD i []).map (trP t)] := fun i hi => (take_snoc (f := fun P : List PT => P.map (trP t)) hi).symm
  refine uX6_setTurned (fun m h' l0 l1 l2 l3 => ∃ i, m = (S2.length - i) * 100 ∧ i ≤ S2.length ∧ l0 = some a ∧ l1 = some q ∧ l2 = t ∧ l3 = Int32.ofNat i ∧ ShO h' a ((S2.take i).map (fun P => P.map (trP t))) [] ∧ Fr a (a + 4) h h')
    (fun m h' l0 l1 l2 l3 l4 => ∃ i j, m = (S2.length - i) * 100 - 1 - j ∧ i < S2.length ∧ j ≤ (S2.getD i []).length ∧ l0 = some a ∧ l1 = some q ∧ l2 = t ∧ l3 = Int32.ofNat i ∧ l4 = Int32.ofNat ((S2.take i).flatten.length + j) ∧ ShO h' a ((S2.take i).map (fun P => P.map (trP t))) (((S2.getD i []).take j).map (trP t)) ∧ Fr a (a + 4) h h') ?_ ?_ ?_
  · unfold PX6_setTurned_0
    obtain ⟨_, g1⟩ := H.ad
    exact cvVq g1 (s6_clear H) fun h2 q => ⟨_, 0, rfl, Nat.zero_le _, rfl, rfl, rfl, rfl, q.1, q.2⟩
  · rintro m h' l0 l1 l2 l3 ⟨i, rfl, hi, rfl, rfl, rfl, rfl, H', f⟩
    have G' := G.fr f (by omega)
    obtain ⟨_, _, _, _, _, _, _, g1, -⟩ := id G'
    unfold PX6_setTurned_6
    refine (rdI_iff g1).mpr ⟨_, rfl, fun c => ?_, fun c => ?_⟩
    · have hii : i = S2.length := by have := (i32_le (by omega) (by omega)).mp c; omega
      subst hii
      rw [List.take_length] at H'
      exact ⟨rfl, H', f⟩
    · have hii : i < S2.length := by have := mt (i32_le (i := S2.length) (j := i) (by omega) (by omega)).mpr c; omega
      exact cvI g1 (s6_start G' (by omega)) ⟨_, by omega, i, 0, rfl, hii, Nat.zero_le _, rfl, rfl, rfl, rfl, rfl, H', f⟩
  · rintro m h' l0 l1 l2 l3 l4 ⟨i, j, rfl, hi, hj, rfl, rfl, rfl, rfl, rfl, H', f⟩
    have G' := G.fr f (by omega)
    obtain ⟨_, g1⟩ := G'.ad
    obtain ⟨_, g2⟩ := H'.ad
    have hfl := take_fl hi
    have hlast : ∀ j, j < (S2.getD i []).length → (S2.take i).flatten.length + j < S2.flatten.length := fun j hj => fl_lt hi hj
    have hle : (S2.take (i + 1)).flatten.length ≤ 18 := by
      have h2 : (S2.take (i + 1)).flatten.length ≤ S2.flatten.length := by
        have := List.take_append_drop (i + 1) S2
        calc (S2.take (i + 1)).flatten.length ≤ ((S2.take (i + 1)).flatten ++ (S2.drop (i + 1)).flatten).length := by simp
          _ = S2.flatten.length := by rw [← List.flatten_append, this]
      omega
    have hlt3 : ((S2.take i).map (fun P => P.map (trP l2))).length < 3 := by rw [List.length_map, List.length_take]; omega
    unfold PX6_setTurned_21
    rw [i32_s]
    refine cvI g1 (s6_start G' (by omega)) ⟨fun c => ?_, fun c => ?_⟩
    · have hjj : j = (S2.getD i []).length := by have := (i32_le (by omega) (by omega)).mp c; omega
      subst hjj
      rw [List.take_length] at H'
      refine cvVq g2 (s6_endPiece H' hlt3) fun h2 q => ⟨(S2.length - (i + 1)) * 100, by omega, i + 1, rfl, hi, rfl, rfl, rfl, rfl, ?_, f.trans q.2⟩
      rw [tk i hi]; exact q.1
    · have hjj : j < (S2.getD i []).length := by
        have := mt (i32_le (i := (S2.take (i + 1)).flatten.length) (j := (S2.take i).flatten.length + j) (by omega) (by omega)).mpr c; omega
      have hlt : (S2.take i).flatten.length + j < (S2.flatten ++ []).length := by rw [List.append_nil]; exact hlast j hjj
      have hg := fl_getD (W := []) hi (j := j) hjj
      have hadd : ((S2.getD i []).take j).map (trP l2) ++ [trP l2 ((S2.getD i []).getD j (0, 0))] = ((S2.getD i []).take (j + 1)).map (trP l2) := take_snoc hjj
      have hcap : (((S2.take i).map (fun P => P.map (trP l2))).flatten ++ ((S2.getD i []).take j).map (trP l2)).length < 18 := by
        rw [List.length_append, mapfl, List.length_map, List.length_take]; omega
      refine cvI g1 (s6_x G' hlt) (cvI g1 (s6_y G' hlt) (csI (s6_turnedX _ _ _) (cvI g1 (s6_x G' hlt) (cvI g1 (s6_y G' hlt) (csI (s6_turnedY _ _ _) (cvVq g2 (s6_addVertex H' hcap _ _) fun h2 q => ?_))))))
      refine ⟨_, ?_, i, j + 1, rfl, hi, hjj, rfl, rfl, rfl, rfl, by rw [i32_s]; rfl, ?_, f.trans q.2⟩
      · omega
      · rw [← hadd, ← hg]; exact q.1
theorem s6_reach (H : ShO h a S []) (hne : S.flatten ≠ []) (dx dy : Int32) : sX6_reach E [aP (some a), aI dx, aI dy] h (kI fun r h' => r = reachP S.flatten dx dy ∧ h' = h) := by
  have hl := H.lens
  obtain ⟨_, _, _, _, _, _, _, h1, -⟩ := id H
  rw [List.append_nil] at h1 hl
  have hpos : 0 < S.flatten.length := List.length_pos_iff.mpr hne
  refine uX6_reach (fun m h' l0 l1 l2 l3 l4 => ∃ j, m = S.flatten.length - j ∧ j < S.flatten.length ∧ h' = h ∧ l0 = some a ∧ l1 = dx ∧ l2 = dy ∧ l4 = Int32.ofNat (j + 1) ∧ l3 = (List.range j).foldl (fun m k => (fun v : Int32 => if m < v then v else m) ((S.flatten.getD (k + 1) (0, 0)).1 * dx + (S.flatten.getD (k + 1) (0, 0)).2 * dy)) ((S.flatten.getD 0 (0, 0)).1 * dx + (S.flatten.getD 0 (0, 0)).2 * dy)) ?_ ?_
  · unfold PX6_reach_0
    have e0 : S.flatten ++ [] = S.flatten := List.append_nil _
    refine cvI h1 (s6_x H (j := 0) (by rw [e0]; exact hpos)) (cvI h1 (s6_y H (j := 0) (by rw [e0]; exact hpos)) fun v5 e5 => ⟨_, 0, rfl, hpos, rfl, rfl, rfl, rfl, rfl, ?_⟩)
    rw [e5, e0]; rfl
  · rintro m h' l0 l1 l2 l3 l4 ⟨j, rfl, hj, rfl, rfl, rfl, rfl, rfl, rfl⟩
    have e0 : S.flatten ++ [] = S.flatten := List.append_nil _
    unfold PX6_reach_19
    refine (rdI_iff h1).mpr ⟨_, rfl, fun c => ?_, fun c => ?_⟩
    · have hjj : j = S.flatten.length - 1 := by have := (i32_le (by omega) (by omega)).mp c; omega
      subst hjj
      exact ⟨_, rfl, rfl, rfl⟩
    · have hjj : j + 1 < S.flatten.length := by have := mt (i32_le (i := S.flatten.length) (j := j + 1) (by omega) (by omega)).mpr c; omega
      refine cvI h1 (s6_x H (by rw [e0]; exact hjj)) (cvI h1 (s6_y H (by rw [e0]; exact hjj)) fun v6 e6 => ⟨S.flatten.length - (j + 1), by omega, j + 1, rfl, hjj, rfl, rfl, rfl, rfl, i32_s _, ?_⟩)
      rw [e6, e0, fold_succ]
end S2
