theorem shape0_len {a : Nat} : (shape0 a).length = 4 := rfl
theorem poly0_len {a : Nat} : (poly0 a).length = 3 := rfl
theorem text0_len {a : Nat} : (text0 a).length = 2 := rfl
theorem sr0_len {a : Nat} : (sr0 a).length = 8 := rfl
theorem lr0_len {a : Nat} : (lr0 a).length = 4 := rfl
theorem pair0_len {a : Nat} : (pair0 a).length = 11 := rfl
theorem state0_len {a : Nat} {e : Option Nat} : (state0 a e).length = 5 := rfl
theorem places0_len {a : Nat} : (places0 a).length = 232 := by
  have h1 := flat_len (f := fun j => poly0 (a + 16 + 3 * j)) (n := 72) (c := 3) (fun _ => rfl)
  simp only [places0, List.length_cons, List.length_append, h1, pair0_len, poly0_len]
theorem hist0_len {a : Nat} {e : Option Nat} : (hist0 a e).length = 32 := by
  have h1 := flat_len (f := fun j => state0 (a + 2 + 5 * j) e) (n := 6) (c := 5) (fun _ => rfl)
  simp only [hist0, List.length_cons, h1]
theorem pl_step {S : List AV → AH → (Option AV → AH → Prop) → Prop} {h r : AH} {cells : Nat → AH} {vs As : List AV} {f b : Nat} {obj : AE} {K : AH → Prop} (hb : (h ++ .inr (10, vs) :: r).length = b) (sp : S (aP (some (h ++ .inr (10, vs) :: r).length) :: As) ((h ++ .inr (10, vs) :: r) ++ [obj]) (kV fun h' => h' = (h ++ .inr (10, vs) :: r) ++ cells (h ++ .inr (10, vs) :: r).length)) (hk : f < vs.length) (g : K (h ++ .inr (10, vs.set f (aP (some b))) :: (r ++ cells b))) : ∀ h5, h5 = (h ++ .inr (10, vs) :: r) ++ [obj] → CS S (aP (some (h ++ .inr (10, vs) :: r).length) :: As) h5 (kV fun h7 => wr h7 (some h.length) 10 f (aP (some (h ++ .inr (10, vs) :: r).length)) K) := by
  intro h5 e5
  subst e5
  refine csV sp (wr_of (rest := r ++ cells b) (by rw [hb, List.append_assoc]; rfl) hk ?_)
  rw [hb]; exact g
theorem i0_Planner {E : EV} {h : AH} : sX10_init E [aP (some h.length)] (h ++ [.inr (10, [aP none, aP none, aP none, aP none, aP none, aP none, aP none, aP none, aP none, aP none, aP none, aP none])]) (kV fun h' => h' = h ++ planner0 h.length) := by
  have hs : ∀ (o : AE) (r : AH), (h ++ o :: (shape0 (h.length + 1) ++ r))[h.length + 1]? = some (.inr (6, [aP (some (h.length + 1 + 1)), aP (some (h.length + 1 + 2)), aP (some (h.length + 1 + 3)), aI 0, aI 0, aI 0, aI 0, aI 0, aI 0])) := fun o r => by
    rw [get_app]; rfl
  refine eX10_init ?_
  unfold PX10_init_0
  refine ⟨by decide, fun h1 e1 => ⟨by decide, csV (e1 ▸ i0_Shape) ?_⟩⟩
  have e0 : ∀ o : AE, h ++ [o] ++ shape0 (h ++ [o]).length = h ++ o :: shape0 (h.length + 1) := fun o => by
    rw [List.append_assoc, List.length_append]; rfl
  have e00 : ∀ o : AE, (h ++ [o]).length = h.length + 1 := fun o => by simp
  rw [e0, e00]
  refine ⟨by decide, fun h5 e5 => ⟨by decide, pl_step (cells := text0) (b := h.length + 5) (by simp only [List.length_append, List.length_cons, shape0_len, text0_len, sr0_len, lr0_len, pair0_len, places0_len, state0_len, hist0_len, poly0_len]) i0_Text (Nat.le_of_ble_eq_true rfl) ?_ h5 e5⟩⟩
  refine ⟨by decide, fun h5 e5 => ⟨by decide, pl_step (cells := sr0) (b := h.length + 7) (by simp only [List.length_append, List.length_cons, shape0_len, text0_len, sr0_len, lr0_len, pair0_len, places0_len, state0_len, hist0_len, poly0_len]) i0_Reader (Nat.le_of_ble_eq_true rfl) ?_ h5 e5⟩⟩
  refine ⟨by decide, fun h5 e5 => ⟨by decide, pl_step (cells := lr0) (b := h.length + 15) (by simp only [List.length_append, List.length_cons, shape0_len, text0_len, sr0_len, lr0_len, pair0_len, places0_len, state0_len, hist0_len, poly0_len]) i0_Layout (Nat.le_of_ble_eq_true rfl) ?_ h5 e5⟩⟩
  refine ⟨by decide, fun h5 e5 => ⟨by decide, pl_step (cells := pair0) (b := h.length + 19) (by simp only [List.length_append, List.length_cons, shape0_len, text0_len, sr0_len, lr0_len, pair0_len, places0_len, state0_len, hist0_len, poly0_len]) i0_Pair (Nat.le_of_ble_eq_true rfl) ?_ h5 e5⟩⟩
  unfold PX10_init_56
  refine ⟨by decide, fun h5 e5 => ⟨by decide, pl_step (cells := places0) (b := h.length + 30) (by simp only [List.length_append, List.length_cons, shape0_len, text0_len, sr0_len, lr0_len, pair0_len, places0_len, state0_len, hist0_len, poly0_len]) i0_Places (Nat.le_of_ble_eq_true rfl) ?_ h5 e5⟩⟩
  refine ⟨by decide, fun h5 e5 => ⟨by decide, pl_step (cells := fun a => state0 a (some (h.length + 1))) (b := h.length + 262) (by simp only [List.length_append, List.length_cons, shape0_len, text0_len, sr0_len, lr0_len, pair0_len, places0_len, state0_len, hist0_len, poly0_len]) (i0_State (he := by simp only [List.append_assoc]; exact hs _ _)) (Nat.le_of_ble_eq_true rfl) ?_ h5 e5⟩⟩
  refine ⟨by decide, fun h5 e5 => ⟨by decide, pl_step (cells := fun a => state0 a (some (h.length + 1))) (b := h.length + 267) (by simp only [List.length_append, List.length_cons, shape0_len, text0_len, sr0_len, lr0_len, pair0_len, places0_len, state0_len, hist0_len, poly0_len]) (i0_State (he := by simp only [List.append_assoc]; exact hs _ _)) (Nat.le_of_ble_eq_true rfl) ?_ h5 e5⟩⟩
  refine ⟨by decide, fun h5 e5 => ⟨by decide, pl_step (cells := fun a => hist0 a (some (h.length + 1))) (b := h.length + 272) (by simp only [List.length_append, List.length_cons, shape0_len, text0_len, sr0_len, lr0_len, pair0_len, places0_len, state0_len, hist0_len, poly0_len]) (i0_Hist (he := by simp only [List.append_assoc]; exact hs _ _)) (Nat.le_of_ble_eq_true rfl) ?_ h5 e5⟩⟩
  unfold PX10_init_103
  refine ⟨by decide, fun h5 e5 => ⟨by decide, pl_step (cells := poly0) (b := h.length + 304) (by simp only [List.length_append, List.length_cons, shape0_len, text0_len, sr0_len, lr0_len, pair0_len, places0_len, state0_len, hist0_len, poly0_len]) i0_Poly (Nat.le_of_ble_eq_true rfl) ?_ h5 e5⟩⟩
  refine ⟨by decide, fun h5 e5 => ⟨by decide, pl_step (cells := shape0) (b := h.length + 307) (by simp only [List.length_append, List.length_cons, shape0_len, text0_len, sr0_len, lr0_len, pair0_len, places0_len, state0_len, hist0_len, poly0_len]) i0_Shape (Nat.le_of_ble_eq_true rfl) ?_ h5 e5⟩⟩
  refine ⟨by decide, fun h5 e5 => ?_⟩
  subst e5
  refine ⟨by decide, csV i0_Fraction (wr_of (by rw [List.append_assoc]; rfl) (Nat.le_of_ble_eq_true rfl) ?_)⟩
  refine ⟨by decide, fun h5 e5 => ?_⟩
  subst e5
  refine wr_of (by rw [List.append_assoc]; rfl) (Nat.le_of_ble_eq_true rfl) ?_
  refine ⟨by decide, rfl, ?_⟩
  simp only [planner0, List.length_append, List.length_cons, shape0_len, text0_len, sr0_len, lr0_len, pair0_len, places0_len, state0_len, hist0_len, poly0_len, List.append_assoc, List.cons_append, List.nil_append, List.set_cons_succ, List.set_cons_zero, Nat.add_assoc, Nat.reduceAdd, List.append_eq, List.length_nil]
