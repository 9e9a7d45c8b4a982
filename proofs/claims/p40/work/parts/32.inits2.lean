theorem flat_len {β : Type} {f : Nat → List β} {n c : Nat} (hf : ∀ j, (f j).length = c) : ((List.range n).flatMap f).length = c * n := by
  induction n with
  | zero => simp
  | succ n ih => rw [List.range_succ, List.flatMap_append, List.length_append, ih]; simp [hf]; rw [Nat.mul_add, Nat.mul_one]
theorem flat_succ {β : Type} {f : Nat → List β} {n : Nat} : (List.range (n + 1)).flatMap f = (List.range n).flatMap f ++ f n := by
  rw [List.range_succ, List.flatMap_append]; simp
def pl1C (a j : Nat) : AH := .inr (4, [aP (some (a + 1)), aP (some (a + 12)), aP (some (a + 15)), aI 0, aI 0, aI 0, aI 0, aI 0, aI 0, aI 0]) :: (pair0 (a + 1) ++ (poly0 (a + 12) ++ (.inr (12, fill 72 (fun j => aP (some (a + 16 + 3 * j))) j) :: (List.range j).flatMap fun j => poly0 (a + 16 + 3 * j))))
theorem pl1C_len {a j : Nat} : (pl1C a j).length = 16 + 3 * j := by
  have h1 := flat_len (f := fun j => poly0 (a + 16 + 3 * j)) (n := j) (c := 3) (fun _ => rfl)
  have h2 : (pair0 (a + 1)).length = 11 := rfl
  have h3 : (poly0 (a + 12)).length = 3 := rfl
  simp only [pl1C, List.length_cons, List.length_append, h1, h2, h3]; omega
theorem i0_Places {E : EV} {h : AH} : sX4_init E [aP (some h.length)] (h ++ [.inr (4, [aP none, aP none, aP none, aI 0, aI 0, aI 0, aI 0, aI 0, aI 0, aI 0])]) (kV fun h' => h' = h ++ places0 h.length) := by
  refine eX4_init (J37 := fun k n h' l0 l1 => ∃ z j, z = 72 - j ∧ j ≤ 72 ∧ k = 15 + 3 * j ∧ n = 254 + 44 * j ∧ h' = h ++ pl1C h.length j ∧ l0 = h.length ∧ l1 = Int32.ofNat j) (fun X C D k n h' l0 l1 ⟨z, hz⟩ => ?_) ?_
  · refine lpX4_init_37 C D (fun z k n h' l0 l1 => ∃ j, z = 72 - j ∧ j ≤ 72 ∧ k = 15 + 3 * j ∧ n = 254 + 44 * j ∧ h' = h ++ pl1C h.length j ∧ l0 = h.length ∧ l1 = Int32.ofNat j) (fun z k n h' l0 l1 hI => ?_) z k n h' l0 l1 hz
    obtain ⟨j, rfl, hj, rfl, rfl, rfl, rfl, rfl⟩ := hI
    unfold PX4_init_37
    have hO := get_app (h := h) (r := pl1C h.length j) (q := 0)
    rw [Nat.add_zero] at hO
    rw [rdP_iff hO]
    refine ⟨_, rfl, ?_⟩
    have hA := get_app (h := h) (r := pl1C h.length j) (q := 15)
    rw [alenP_iff hA, fill_len hj]
    refine ⟨fun hc => ?_, fun hc => ?_⟩
    · have : j = 72 := by
        have := (i32_le (i := 72) (j := j) (by omega) (by omega)).mp hc
        omega
      subst this
      exact ⟨by decide, rfl, rfl⟩
    · have hj8 : j < 72 := by
        have := mt (i32_le (i := 72) (j := j) (by omega) (by omega)).mpr hc
        omega
      rw [rdP_iff hO]
      refine ⟨_, rfl, ⟨by omega, by omega⟩, fun h4 e4 => ⟨⟨by omega, by omega⟩, csV (e4 ▸ i0_Poly) ?_⟩⟩
      have hl : (h ++ pl1C h.length j).length = h.length + 16 + 3 * j := by rw [List.length_append, pl1C_len]; omega
      have hA2 : ((h ++ pl1C h.length j) ++ poly0 (h ++ pl1C h.length j).length)[h.length + 15]? = some (.inr (12, fill 72 (fun j => aP (some (h.length + 16 + 3 * j))) j)) := by
        rw [List.getElem?_append_left (by rw [hl]; omega)]; exact hA
      have hB2 : ((h ++ pl1C h.length j) ++ poly0 (h ++ pl1C h.length j).length)[(h ++ pl1C h.length j).length]? = some (.inr (5, [aP (some ((h ++ pl1C h.length j).length + 1)), aP (some ((h ++ pl1C h.length j).length + 2)), aI 0, aI 0, aI 0, aI 0, aI 0, aI 0])) := by
        have := get_app (h := h ++ pl1C h.length j) (r := poly0 (h ++ pl1C h.length j).length) (q := 0)
        rw [Nat.add_zero] at this; exact this
      refine astP_of hA2 hB2 (i32_nn (by omega)) (by rw [fill_len hj, i32_n (by omega)]; exact hj8) ?_
      refine ⟨72 - (j + 1), by omega, j + 1, rfl, hj8, by omega, by omega, ?_, rfl, i32_s j⟩
      rw [i32_n (by omega), hl, fill_set (f := fun j => aP (some (h.length + 16 + 3 * j))) hj8, List.append_assoc, set_app]
      congr 1
      simp only [pl1C, pair0, poly0, List.cons_append, List.nil_append, List.append_assoc, List.set_cons_succ, List.set_cons_zero, flat_succ]
  · refine ⟨by decide, fun h1 e1 => ⟨by decide, csV (e1 ▸ i0_Pair) (wr_of (by rw [List.append_assoc]; rfl) (Nat.le_of_ble_eq_true rfl) ?_)⟩⟩
    refine ⟨by decide, fun h1 e1 => ⟨by decide, csV (e1 ▸ i0_Poly) (wr_of (by rw [List.append_assoc]; rfl) (Nat.le_of_ble_eq_true rfl) ?_)⟩⟩
    refine ⟨by decide, fun h1 e1 => ?_⟩
    subst e1
    refine wr_of (by rw [List.append_assoc]; rfl) (Nat.le_of_ble_eq_true rfl) ?_
    refine ⟨72, 0, rfl, by omega, rfl, rfl, ?_, rfl, rfl⟩
    simp [pl1C, pair0, poly0, fill_zero]
def hi1C (a e j : Nat) : AH := .inr (1, [aP (some (a + 1)), aI 0]) :: .inr (14, fill 6 (fun j => aP (some (a + 2 + 5 * j))) j) :: (List.range j).flatMap fun j => state0 (a + 2 + 5 * j) (some e)
theorem hi1C_len {a e j : Nat} : (hi1C a e j).length = 2 + 5 * j := by
  have := flat_len (f := fun j => state0 (a + 2 + 5 * j) (some e)) (n := j) (c := 5) (fun _ => rfl)
  simp only [hi1C, List.length_cons, this]; omega
theorem i0_Hist {E : EV} {h : AH} {e : Nat} {us : List AV} (he : h[e]? = some (.inr (6, us))) : sX1_init E [aP (some h.length), aP (some e)] (h ++ [.inr (1, [aP none, aI 0])]) (kV fun h' => h' = h ++ hist0 h.length (some e)) := by
  have hel : e < h.length := (List.getElem?_eq_some_iff.mp he).1
  refine eX1_init (J15 := fun k n h' l0 l1 l2 => ∃ z j, z = 6 - j ∧ j ≤ 6 ∧ k = 1 + 5 * j ∧ n = 6 + 37 * j ∧ h' = h ++ hi1C h.length e j ∧ l0 = h.length ∧ l1 = some e ∧ l2 = Int32.ofNat j) (fun X C D k n h' l0 l1 l2 ⟨z, hz⟩ => ?_) ?_
  · refine lpX1_init_15 C D (fun z k n h' l0 l1 l2 => ∃ j, z = 6 - j ∧ j ≤ 6 ∧ k = 1 + 5 * j ∧ n = 6 + 37 * j ∧ h' = h ++ hi1C h.length e j ∧ l0 = h.length ∧ l1 = some e ∧ l2 = Int32.ofNat j) (fun z k n h' l0 l1 l2 hI => ?_) z k n h' l0 l1 l2 hz
    obtain ⟨j, rfl, hj, rfl, rfl, rfl, rfl, rfl, rfl⟩ := hI
    unfold PX1_init_15
    have hO := get_app (h := h) (r := hi1C h.length e j) (q := 0)
    rw [Nat.add_zero] at hO
    rw [rdP_iff hO]
    refine ⟨_, rfl, ?_⟩
    have hA := get_app (h := h) (r := hi1C h.length e j) (q := 1)
    rw [alenP_iff hA, fill_len hj]
    refine ⟨fun hc => ?_, fun hc => ?_⟩
    · have : j = 6 := by
        have := (i32_le (i := 6) (j := j) (by omega) (by omega)).mp hc
        omega
      subst this
      exact ⟨by decide, rfl, rfl⟩
    · have hj8 : j < 6 := by
        have := mt (i32_le (i := 6) (j := j) (by omega) (by omega)).mpr hc
        omega
      rw [rdP_iff hO]
      have he2 : (h ++ hi1C h.length e j)[e]? = some (.inr (6, us)) := by rw [List.getElem?_append_left hel]; exact he
      refine ⟨_, rfl, ⟨by omega, by omega⟩, fun h4 e4 => ⟨⟨by omega, by omega⟩, csV (e4 ▸ i0_State he2) ?_⟩⟩
      have hl : (h ++ hi1C h.length e j).length = h.length + 2 + 5 * j := by rw [List.length_append, hi1C_len]; omega
      have hA2 : ((h ++ hi1C h.length e j) ++ state0 (h ++ hi1C h.length e j).length (some e))[h.length + 1]? = some (.inr (14, fill 6 (fun j => aP (some (h.length + 2 + 5 * j))) j)) := by
        rw [List.getElem?_append_left (by rw [hl]; omega)]; exact hA
      have hB2 := get_app (h := h ++ hi1C h.length e j) (r := state0 (h ++ hi1C h.length e j).length (some e)) (q := 0)
      rw [Nat.add_zero] at hB2
      refine astP_of hA2 hB2 (i32_nn (by omega)) (by rw [fill_len hj, i32_n (by omega)]; exact hj8) ?_
      refine ⟨6 - (j + 1), by omega, j + 1, rfl, hj8, by omega, by omega, ?_, rfl, rfl, i32_s j⟩
      rw [i32_n (by omega), hl, fill_set (f := fun j => aP (some (h.length + 2 + 5 * j))) hj8, List.append_assoc, set_app]
      congr 1
      simp only [hi1C, List.cons_append, List.set_cons_succ, List.set_cons_zero, flat_succ]
  · refine ⟨by decide, fun h1 e1 => ?_⟩
    subst e1
    refine wr_of (by rw [List.append_assoc]; rfl) (Nat.le_of_ble_eq_true rfl) ?_
    refine ⟨6, 0, rfl, by omega, rfl, rfl, ?_, rfl, rfl, rfl⟩
    simp [hi1C, fill_zero]
def planner0 (a : Nat) : AH := .inr (10, [aP (some (a + 5)), aP (some (a + 7)), aP (some (a + 15)), aP (some (a + 19)), aP (some (a + 30)), aP (some (a + 262)), aP (some (a + 267)), aP (some (a + 272)), aP (some (a + 304)), aP (some (a + 307)), aP (some (a + 311)), aP (some (a + 312))]) :: (shape0 (a + 1) ++ (text0 (a + 5) ++ (sr0 (a + 7) ++ (lr0 (a + 15) ++ (pair0 (a + 19) ++ (places0 (a + 30) ++ (state0 (a + 262) (some (a + 1)) ++ (state0 (a + 267) (some (a + 1)) ++ (hist0 (a + 272) (some (a + 1)) ++ (poly0 (a + 304) ++ (shape0 (a + 307) ++ [.inr (0, [aJ 0, aJ 0]), .inl (0, List.replicate 8 0)])))))))))))
