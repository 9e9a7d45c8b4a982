/-! areas, boxes, extents, points of pieces, turns -/
theorem sum_shift1 (F : Nat → Int32) : ∀ n (a : Int32), (List.range n).foldl (fun s k => s + F (k + 1)) a + F 0 = (List.range n).foldl (fun s k => s + F k) a + F n := fun n => by
  induction n with
  | zero => intro a; rfl
  | succ n ih =>
    intro a
    rw [fold_succ, fold_succ, Int32.add_assoc, Int32.add_comm (F (n + 1)), ← Int32.add_assoc, ih]
theorem sum_shift {F : Nat → Int32} {n : Nat} (per : ∀ k, F (k + n) = F k) : ∀ s (a : Int32), (List.range n).foldl (fun t k => t + F (s + k)) a = (List.range n).foldl (fun t k => t + F k) a := fun s => by
  induction s with
  | zero => intro a; simp only [Nat.zero_add]
  | succ s ih =>
    intro a
    rw [← ih a]
    have h := sum_shift1 (fun k => F (s + k)) n a
    rw [Nat.add_zero, per] at h
    have e : (fun (t : Int32) (k : Nat) => t + F (s + 1 + k)) = fun t k => t + F (s + (k + 1)) := by
      funext t k; rw [show s + 1 + k = s + (k + 1) by omega]
    rw [e]
    have h2 := congrArg (fun q => q - F s) h
    rw [Int32.add_sub_cancel, Int32.add_sub_cancel] at h2
    exact h2
theorem fold_cong {β : Type} {f g : β → Nat → β} : ∀ (n : Nat) (a : β), (∀ b k, k < n → f b k = g b k) → (List.range n).foldl f a = (List.range n).foldl g a := fun n => by
  induction n with
  | zero => intro a _; rfl
  | succ n ih =>
    intro a h
    rw [fold_succ, fold_succ, ih a fun b k hk => h b k (by omega), h _ n (by omega)]
section AR
variable {A A' : List PT}
def crR (V : List PT) (k : Nat) : Int32 := (vR V k).1 * (vR V (k + 1)).2 - (vR V (k + 1)).1 * (vR V k).2
theorem area_low {L : List PT} (h : L ≠ []) : areaP L = (List.range L.length).foldl (fun s k => s + crR L (low L + k)) 0 := by
  unfold areaP
  refine fold_cong _ _ fun b k hk => ?_
  rw [vAt_vR h (by omega), vAt_vR h (by omega), ← Nat.add_assoc]
  rfl
theorem area_eq (H : CP A A') : areaP A = arR A' := by
  have hl := H.len
  have hne : A ≠ [] := List.length_pos_iff.mp (by omega)
  obtain ⟨e, s, hs⟩ := H.1
  rw [area_low hne, e]
  have e1 : (fun (t : Int32) (k : Nat) => t + crR A (low A + k)) = fun t k => t + crR A' (s + low A + k) := by
    funext t k
    unfold crR
    rw [hs, hs, ← Nat.add_assoc, ← Nat.add_assoc, ← Nat.add_assoc]
  rw [e1]
  have per : ∀ k, crR A' (k + A'.length) = crR A' k := fun k => by
    unfold crR
    rw [vR_congr (a := k + A'.length) (b := k) (Nat.add_mod_right ..), vR_congr (a := k + A'.length + 1) (b := k + 1) (by rw [show k + A'.length + 1 = k + 1 + A'.length by omega, Nat.add_mod_right])]
  exact sum_shift per (s + low A) 0
theorem pfold_att : ∀ V : List PT, V ≠ [] → (∃ k, k < V.length ∧ (V.getD k (0, 0)).1 = (pfold V).2.2.2.1) ∧ (∃ k, k < V.length ∧ (V.getD k (0, 0)).2 = (pfold V).2.2.2.2.1) ∧ (∃ k, k < V.length ∧ (V.getD k (0, 0)).1 = (pfold V).2.2.2.2.2.1) ∧ ∃ k, k < V.length ∧ (V.getD k (0, 0)).2 = (pfold V).2.2.2.2.2.2 := snoc_ind (fun h => absurd rfl h) fun l a ih _ => by
  have hn := pfold_n l
  rw [pfold_snoc, List.length_append, List.length_singleton]
  by_cases c : l.length = 0
  · have : l = [] := List.eq_nil_of_length_eq_zero c
    subst this
    exact ⟨⟨0, by simp, rfl⟩, ⟨0, by simp, rfl⟩, ⟨0, by simp, rfl⟩, ⟨0, by simp, rfl⟩⟩
  · have hne : l ≠ [] := fun h => c (by rw [h]; rfl)
    obtain ⟨⟨k1, a1, b1⟩, ⟨k2, a2, b2⟩, ⟨k3, a3, b3⟩, k4, a4, b4⟩ := ih hne
    have gl : ∀ k, k < l.length → (l ++ [a]).getD k (0, 0) = l.getD k (0, 0) := fun k hk => by rw [getD_app, if_pos hk]
    have ga : (l ++ [a]).getD l.length (0, 0) = a := by rw [getD_app, if_neg (by omega), if_pos rfl]
    have key : ∀ s : PS, pfold l = s → (∃ k, k < l.length + 1 ∧ ((l ++ [a]).getD k (0, 0)).1 = (pstep s a).2.2.2.1) ∧ (∃ k, k < l.length + 1 ∧ ((l ++ [a]).getD k (0, 0)).2 = (pstep s a).2.2.2.2.1) ∧ (∃ k, k < l.length + 1 ∧ ((l ++ [a]).getD k (0, 0)).1 = (pstep s a).2.2.2.2.2.1) ∧ ∃ k, k < l.length + 1 ∧ ((l ++ [a]).getD k (0, 0)).2 = (pstep s a).2.2.2.2.2.2 := fun s hs => by
      rw [hs] at hn b1 b2 b3 b4
      obtain ⟨n, lw, lx, mnx, mny, mxx, mxy⟩ := s
      dsimp only at hn b1 b2 b3 b4
      subst hn
      unfold pstep
      dsimp only
      rw [if_neg c, if_neg c, if_neg c, if_neg c]
      refine ⟨?_, ?_, ?_, ?_⟩
      · split
        · exact ⟨k1, by omega, by rw [gl k1 a1]; exact b1⟩
        · exact ⟨l.length, by omega, by rw [ga]⟩
      · split
        · exact ⟨k2, by omega, by rw [gl k2 a2]; exact b2⟩
        · exact ⟨l.length, by omega, by rw [ga]⟩
      · split
        · exact ⟨k3, by omega, by rw [gl k3 a3]; exact b3⟩
        · exact ⟨l.length, by omega, by rw [ga]⟩
      · split
        · exact ⟨k4, by omega, by rw [gl k4 a4]; exact b4⟩
        · exact ⟨l.length, by omega, by rw [ga]⟩
    exact key _ rfl
end AR
section BO
variable {S S' : SH}
/-- the farthest of a shape's points in a direction -/
theorem hg_spec (h : S' ≠ []) (hR : ∀ i, i < S'.length → RP (S'.getD i [])) {n : PT} (hn : Nb n) : (∃ v, v ∈ S'.flatten ∧ (hgP S' n.1 n.2).toInt = dt (zP n) (zP v)) ∧ ∀ v, v ∈ S'.flatten → dt (zP n) (zP v) ≤ (hgP S' n.1 n.2).toInt := by
  have h0 : 0 < S'.length := List.length_pos_iff.mpr h
  have one : ∀ i, i < S'.length → (∃ v, v ∈ S'.getD i [] ∧ (hiP (S'.getD i []) n.1 n.2).toInt = dt (zP n) (zP v)) ∧ ∀ v, v ∈ S'.getD i [] → dt (zP n) (zP v) ≤ (hiP (S'.getD i []) n.1 n.2).toInt := fun i hi => by
    have r := hR i hi
    have l0 : 0 < (S'.getD i []).length := by have := r.2.1; omega
    obtain ⟨⟨v, -, e⟩, b⟩ := hi_spec r.1.bw l0 hn
    refine ⟨⟨_, mem_vR (List.length_pos_iff.mp l0) v, e⟩, fun w hw => ?_⟩
    obtain ⟨k, -, q⟩ := vR_mem hw
    rw [← q]; exact b k
  have bd : ∀ i, i < S'.length → -100000 ≤ (hiP (S'.getD i []) n.1 n.2).toInt := fun i hi => by
    obtain ⟨⟨v, hv, e⟩, -⟩ := one i hi
    have := (dt_i32 hn ((hR i hi).1.bw v hv)).2
    omega
  obtain ⟨i, h1, h2, h3⟩ := up_fold (fun p => hiP (S'.getD p []) n.1 n.2) S'.length h0 bd
  have e : hgP S' n.1 n.2 = hiP (S'.getD i []) n.1 n.2 := h2
  obtain ⟨⟨v, hv, q⟩, -⟩ := one i h1
  refine ⟨⟨v, mem_flat.mpr ⟨i, h1, hv⟩, by rw [e]; exact q⟩, fun w hw => ?_⟩
  obtain ⟨j, hj, hw⟩ := mem_flat.mp hw
  have a := (one j hj).2 w hw
  have b := h3 j hj
  rw [e]
  omega
theorem SR.rp (H : SR S S') : ∀ i, i < S'.length → RP (S'.getD i []) := fun i hi => (H.2 i (by rw [H.1]; exact hi)).2
theorem SR.ne' (H : SR S S') (h : S ≠ []) : S' ≠ [] := List.length_pos_iff.mp (by rw [← H.1]; exact List.length_pos_iff.mpr h)
theorem box_eq (H : SR S S') (h : S ≠ []) : (hgP S' (-1) 0 = -(pfold S.flatten).2.2.2.1 ∧ hgP S' 0 (-1) = -(pfold S.flatten).2.2.2.2.1 ∧ hgP S' 1 0 = (pfold S.flatten).2.2.2.2.2.1 ∧ hgP S' 0 1 = (pfold S.flatten).2.2.2.2.2.2) ∧ ((-9 ≤ (pfold S.flatten).2.2.2.1.toInt ∧ (pfold S.flatten).2.2.2.1.toInt ≤ 9) ∧ (-9 ≤ (pfold S.flatten).2.2.2.2.1.toInt ∧ (pfold S.flatten).2.2.2.2.1.toInt ≤ 9) ∧ (-9 ≤ (pfold S.flatten).2.2.2.2.2.1.toInt ∧ (pfold S.flatten).2.2.2.2.2.1.toInt ≤ 9) ∧ -9 ≤ (pfold S.flatten).2.2.2.2.2.2.toInt ∧ (pfold S.flatten).2.2.2.2.2.2.toInt ≤ 9) := by
  obtain ⟨ne, -⟩ := H.ne h
  obtain ⟨-, j2⟩ := pfold_LoS _ ne
  obtain ⟨⟨k1, a1, b1⟩, ⟨k2, a2, b2⟩, ⟨k3, a3, b3⟩, k4, a4, b4⟩ := pfold_att _ ne
  have b9 : ∀ v, v ∈ S.flatten → B9 v := fun v hv => by
    obtain ⟨i, hi, q⟩ := mem_flat.mp ((H.mem v).mp hv)
    exact (H.rp i hi).1 v q
  have at' : ∀ k, k < S.flatten.length → B9 (S.flatten.getD k (0, 0)) := fun k hk => b9 _ (getD_mem (0, 0) hk)
  have g := fun (n : PT) (hn : Nb n) => hg_spec (H.ne' h) H.rp hn
  have ng : ∀ a : Int32, -9 ≤ a.toInt → a.toInt ≤ 9 → (-a).toInt = -a.toInt := fun a h1 h2 => by
    have := i32_subE (x := 0) (y := a) (by decide) (by decide) (by omega) (by omega)
    rw [Int32.zero_sub] at this
    rw [this]; show 0 - a.toInt = _; omega
  have q1 := at' k1 a1
  have q2 := at' k2 a2
  have q3 := at' k3 a3
  have q4 := at' k4 a4
  unfold B9 at q1 q2 q3 q4
  rw [b1] at q1
  rw [b2] at q2
  rw [b3] at q3
  rw [b4] at q4
  refine ⟨⟨?_, ?_, ?_, ?_⟩, ⟨by omega, by omega⟩, ⟨by omega, by omega⟩, ⟨by omega, by omega⟩, by omega, by omega⟩
  · obtain ⟨⟨v, hv, e⟩, m⟩ := g (-1, 0) ⟨by decide, by decide, by decide, by decide⟩
    have d : ∀ w : PT, dt (zP (-1, 0)) (zP w) = -w.1.toInt := fun w => by
      have : zP (-1, 0) = (-1, 0) := by decide
      rw [this]; unfold dt zP; dsimp only; omega
    rw [d] at e
    have mm := m _ ((H.mem _).mp (getD_mem (0, 0) a1))
    rw [d, b1] at mm
    obtain ⟨i, hi, ei⟩ := mem_tAt ((H.mem v).mpr hv)
    have l := (j2 i hi).2.1
    have ei : S.flatten.getD i (0, 0) = v := ei
    rw [ei] at l
    apply Int32.toInt_inj.mp
    rw [ng _ (by omega) (by omega)]
    dsimp only at e mm ⊢
    omega
  · obtain ⟨⟨v, hv, e⟩, m⟩ := g (0, -1) ⟨by decide, by decide, by decide, by decide⟩
    have d : ∀ w : PT, dt (zP (0, -1)) (zP w) = -w.2.toInt := fun w => by
      have : zP (0, -1) = (0, -1) := by decide
      rw [this]; unfold dt zP; dsimp only; omega
    rw [d] at e
    have mm := m _ ((H.mem _).mp (getD_mem (0, 0) a2))
    rw [d, b2] at mm
    obtain ⟨i, hi, ei⟩ := mem_tAt ((H.mem v).mpr hv)
    have l := (j2 i hi).1.1
    have ei : S.flatten.getD i (0, 0) = v := ei
    rw [ei] at l
    apply Int32.toInt_inj.mp
    rw [ng _ (by omega) (by omega)]
    dsimp only at e mm ⊢
    omega
  · obtain ⟨⟨v, hv, e⟩, m⟩ := g (1, 0) ⟨by decide, by decide, by decide, by decide⟩
    have d : ∀ w : PT, dt (zP (1, 0)) (zP w) = w.1.toInt := fun w => by
      have : zP (1, 0) = (1, 0) := by decide
      rw [this]; unfold dt zP; dsimp only; omega
    rw [d] at e
    have mm := m _ ((H.mem _).mp (getD_mem (0, 0) a3))
    rw [d, b3] at mm
    obtain ⟨i, hi, ei⟩ := mem_tAt ((H.mem v).mpr hv)
    have l := (j2 i hi).2.2.1
    have ei : S.flatten.getD i (0, 0) = v := ei
    rw [ei] at l
    apply Int32.toInt_inj.mp
    dsimp only at e mm ⊢
    omega
  · obtain ⟨⟨v, hv, e⟩, m⟩ := g (0, 1) ⟨by decide, by decide, by decide, by decide⟩
    have d : ∀ w : PT, dt (zP (0, 1)) (zP w) = w.2.toInt := fun w => by
      have : zP (0, 1) = (0, 1) := by decide
      rw [this]; unfold dt zP; dsimp only; omega
    rw [d] at e
    have mm := m _ ((H.mem _).mp (getD_mem (0, 0) a4))
    rw [d, b4] at mm
    obtain ⟨i, hi, ei⟩ := mem_tAt ((H.mem v).mpr hv)
    have l := (j2 i hi).2.2.2
    have ei : S.flatten.getD i (0, 0) = v := ei
    rw [ei] at l
    apply Int32.toInt_inj.mp
    dsimp only at e mm ⊢
    omega
/-- the boxes of places agree -/
theorem bx_eq (H : SR S S') (h : S ≠ []) (w hh : Int32) : bxR S' w hh = bxP S w hh := by
  obtain ⟨⟨a, b, c, d⟩, -⟩ := box_eq H h
  unfold bxR bxP
  rw [a, b, c, d]
theorem reach_eq (H : SR S S') (h : S ≠ []) {n : PT} (hn : Nb n) : reachP S.flatten n.1 n.2 = hgP S' n.1 n.2 := by
  obtain ⟨ne, -⟩ := H.ne h
  obtain ⟨⟨v, hv, e⟩, m⟩ := hg_spec (H.ne' h) H.rp hn
  obtain ⟨B, -⟩ := H.bs
  have hl : 0 < S.flatten.length := List.length_pos_iff.mpr ne
  have d : ∀ k, ((tAt S.flatten k).1 * n.1 + (tAt S.flatten k).2 * n.2).toInt = dt (zP n) (zP (tAt S.flatten k)) := fun k => by
    have := (dt_i32 hn (B.bd k)).1
    rw [Int32.mul_comm, Int32.mul_comm (tAt S.flatten k).2]; exact this
  have key : ∀ r, (∃ k, k ≤ r ∧ (List.range r).foldl (fun m k => (fun v : Int32 => if m < v then v else m) ((S.flatten.getD (k + 1) (0, 0)).1 * n.1 + (S.flatten.getD (k + 1) (0, 0)).2 * n.2)) ((S.flatten.getD 0 (0, 0)).1 * n.1 + (S.flatten.getD 0 (0, 0)).2 * n.2) = (tAt S.flatten k).1 * n.1 + (tAt S.flatten k).2 * n.2) ∧ ∀ j, j ≤ r → dt (zP n) (zP (tAt S.flatten j)) ≤ ((List.range r).foldl (fun m k => (fun v : Int32 => if m < v then v else m) ((S.flatten.getD (k + 1) (0, 0)).1 * n.1 + (S.flatten.getD (k + 1) (0, 0)).2 * n.2)) ((S.flatten.getD 0 (0, 0)).1 * n.1 + (S.flatten.getD 0 (0, 0)).2 * n.2)).toInt := fun r => by
    induction r with
    | zero =>
      refine ⟨⟨0, Nat.le_refl _, rfl⟩, fun j hj => ?_⟩
      have : j = 0 := by omega
      subst this
      rw [← d 0]
      exact Int.le_refl _
    | succ r ih =>
      rw [fold_succ]
      obtain ⟨⟨k, hk, q⟩, b⟩ := ih
      rw [q] at b ⊢
      dsimp only
      have x : S.flatten.getD (r + 1) (0, 0) = tAt S.flatten (r + 1) := rfl
      rw [x]
      rw [d k] at b
      by_cases c : (tAt S.flatten k).1 * n.1 + (tAt S.flatten k).2 * n.2 < (tAt S.flatten (r + 1)).1 * n.1 + (tAt S.flatten (r + 1)).2 * n.2
      · rw [if_pos c]
        rw [Int32.lt_iff_toInt_lt, d, d] at c
        refine ⟨⟨r + 1, Nat.le_refl _, rfl⟩, fun j hj => ?_⟩
        rw [d]
        by_cases z : j = r + 1
        · subst z; exact Int.le_refl _
        · have := b j (by omega); omega
      · rw [if_neg c]
        rw [Int32.lt_iff_toInt_lt, d, d] at c
        refine ⟨⟨k, by omega, rfl⟩, fun j hj => ?_⟩
        rw [d]
        by_cases z : j = r + 1
        · subst z; omega
        · exact b j (by omega)
  obtain ⟨⟨k, hk, q⟩, b⟩ := key (S.flatten.length - 1)
  have q : reachP S.flatten n.1 n.2 = (tAt S.flatten k).1 * n.1 + (tAt S.flatten k).2 * n.2 := q
  have b : ∀ j, j ≤ S.flatten.length - 1 → dt (zP n) (zP (tAt S.flatten j)) ≤ (reachP S.flatten n.1 n.2).toInt := b
  apply Int32.toInt_inj.mp
  have m1 := m _ ((H.mem _).mp (tAt_mem (T := S.flatten) (i := k) (by omega)))
  obtain ⟨i, hi, ei⟩ := mem_tAt ((H.mem v).mpr hv)
  have m2 := b i (by omega)
  rw [ei] at m2
  rw [q, d] at m2 ⊢
  omega
end BO
