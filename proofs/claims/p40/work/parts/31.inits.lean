/-! constructors of the class: exactly which cells are new -/
theorem i0_Fraction {E : EV} {h : AH} {a : Nat} : sX0_init E [aP (some a)] h (kV fun h' => h' = h) := eX0_init (by unfold PX0_init_0; exact ⟨rfl, rfl⟩)
theorem i0_Shape {E : EV} {h : AH} : sX6_init E [aP (some h.length)] (h ++ [.inr (6, [aP none, aP none, aP none, aI 0, aI 0, aI 0, aI 0, aI 0, aI 0])]) (kV fun h' => h' = h ++ shape0 h.length) := by
  refine eX6_init ?_
  simp [PX6_init_0, wr_at, kV, shape0]
theorem i0_Poly {E : EV} {h : AH} : sX5_init E [aP (some h.length)] (h ++ [.inr (5, [aP none, aP none, aI 0, aI 0, aI 0, aI 0, aI 0, aI 0])]) (kV fun h' => h' = h ++ poly0 h.length) := by
  refine eX5_init ?_
  simp [PX5_init_0, wr_at, kV, poly0]
theorem i0_Text {E : EV} {h : AH} : sX9_init E [aP (some h.length)] (h ++ [.inr (9, [aP none, aI 0, aI 0, aI 0])]) (kV fun h' => h' = h ++ text0 h.length) := by
  refine eX9_init ?_
  simp [PX9_init_0, wr_at, kV, text0]
theorem i0_Layout {E : EV} {h : AH} : sX2_init E [aP (some h.length)] (h ++ [.inr (2, [aP none, aP none, aP none, aI 0])]) (kV fun h' => h' = h ++ lr0 h.length) := by
  refine eX2_init ?_
  simp [PX2_init_0, wr_at, kV, lr0]
theorem wr_of {hh h0 rest : AH} {c k : Nat} {vs : List AV} {v : AV} {K : AH → Prop} (e : hh = h0 ++ .inr (c, vs) :: rest) (hk : k < vs.length) (g : K (h0 ++ .inr (c, vs.set k v) :: rest)) : wr hh (some h0.length) c k v K := by
  rw [e, wr_at]; exact ⟨hk, g⟩
theorem i0_Reader {E : EV} {h : AH} : sX7_init E [aP (some h.length)] (h ++ [.inr (7, [aP none, aP none])]) (kV fun h' => h' = h ++ sr0 h.length) := by
  refine eX7_init ?_
  unfold PX7_init_0
  refine ⟨by decide, fun h1 e1 => ⟨by decide, csV (e1 ▸ i0_Shape) (wr_of (by rw [List.append_assoc]; rfl) (Nat.le_of_ble_eq_true rfl) ?_)⟩⟩
  refine ⟨by decide, fun h1 e1 => ⟨by decide, csV (e1 ▸ i0_Poly) (wr_of (by rw [List.append_assoc]; rfl) (Nat.le_of_ble_eq_true rfl) ?_)⟩⟩
  simp [kV, sr0, shape0]
theorem i0_Pair {E : EV} {h : AH} : sX3_init E [aP (some h.length)] (h ++ [.inr (3, [aP none, aP none, aP none, aP none])]) (kV fun h' => h' = h ++ pair0 h.length) := by
  refine eX3_init ?_
  unfold PX3_init_0
  refine ⟨by decide, fun h1 e1 => ⟨by decide, csV (e1 ▸ i0_Poly) (wr_of (by rw [List.append_assoc]; rfl) (Nat.le_of_ble_eq_true rfl) ?_)⟩⟩
  refine ⟨by decide, fun h1 e1 => ⟨by decide, csV (e1 ▸ i0_Poly) (wr_of (by rw [List.append_assoc]; rfl) (Nat.le_of_ble_eq_true rfl) ?_)⟩⟩
  refine ⟨by decide, fun h1 e1 => ⟨by decide, csV (e1 ▸ i0_Poly) (wr_of (by rw [List.append_assoc]; rfl) (Nat.le_of_ble_eq_true rfl) ?_)⟩⟩
  refine ⟨by decide, fun h1 e1 => ?_⟩
  subst e1
  refine ⟨by decide, csV i0_Fraction (wr_of (by rw [List.append_assoc]; rfl) (Nat.le_of_ble_eq_true rfl) ?_)⟩
  simp [kV, pair0, poly0]
def st1C (a e : Nat) (i j : Nat) : AH := [.inr (8, [aP (some e), aP (some (a + 1)), aP (some (a + 2)), aP (some (a + 3)), aP (some (a + 4)), aI 0, aI 20, aI 20, aI 0]), .inr (13, fill 4 (fun _ => aP (some e)) i), .inr (13, fill 8 (fun _ => aP (some e)) j), .inl (0, List.replicate 8 0), .inl (0, List.replicate 8 0)]
theorem get_app {h r : AH} {q : Nat} : (h ++ r)[h.length + q]? = r[q]? := by
  rw [List.getElem?_append_right (by omega)]; simp
theorem set_app {h r : AH} {q : Nat} {x : AE} : (h ++ r).set (h.length + q) x = h ++ r.set q x := by
  rw [List.set_append_right _ _ (by omega)]; simp
theorem astP_of {h : AH} {a b kd ci : Nat} {vs us : List AV} {i : Int32} {K : AH → Prop} (H : h[a]? = some (.inr (kd, vs))) (Hb : h[b]? = some (.inr (ci, us))) (h0 : ¬ i < 0) (hi : i.toNatClampNeg < vs.length) (k : K (h.set a (.inr (kd, vs.set i.toNatClampNeg (aP (some b)))))) : astP h (some a) kd ci i (some b) K := ⟨a, vs, b, us, rfl, rfl, H, Hb, h0, hi, k⟩
theorem i0_State {E : EV} {h : AH} {e : Nat} {us : List AV} (he : h[e]? = some (.inr (6, us))) : sX8_init E [aP (some h.length), aP (some e)] (h ++ [.inr (8, [aP none, aP none, aP none, aP none, aP none, aI 0, aI 0, aI 0, aI 0])]) (kV fun h' => h' = h ++ state0 h.length (some e)) := by
  have hel : e < h.length := (List.getElem?_eq_some_iff.mp he).1
  have hHe : ∀ i j, (h ++ st1C h.length e i j)[e]? = some (.inr (6, us)) := fun i j => by
    rw [List.getElem?_append_left hel]; exact he
  refine eX8_init (J56 := fun k n h' l0 l1 l2 => ∃ z j, z = 4 - j ∧ j ≤ 4 ∧ k = 4 ∧ n = 28 ∧ h' = h ++ st1C h.length e j 0 ∧ l0 = h.length ∧ l1 = some e ∧ l2 = Int32.ofNat j) (fun X C D k n h' l0 l1 l2 ⟨z, hz⟩ => ?_) ?_
  · refine lpX8_init_56 (J80 := fun k n h' l0 l1 l2 => ∃ z j, z = 8 - j ∧ j ≤ 8 ∧ k = 4 ∧ n = 28 ∧ h' = h ++ st1C h.length e 4 j ∧ l0 = h.length ∧ l1 = some e ∧ l2 = Int32.ofNat j) C D (fun k n h' l0 l1 l2 ⟨z, hz⟩ => ?_) (fun z k n h' l0 l1 l2 => ∃ j, z = 4 - j ∧ j ≤ 4 ∧ k = 4 ∧ n = 28 ∧ h' = h ++ st1C h.length e j 0 ∧ l0 = h.length ∧ l1 = some e ∧ l2 = Int32.ofNat j) (fun z k n h' l0 l1 l2 hI => ?_) z k n h' l0 l1 l2 hz
    · refine lpX8_init_80 C D (fun z k n h' l0 l1 l2 => ∃ j, z = 8 - j ∧ j ≤ 8 ∧ k = 4 ∧ n = 28 ∧ h' = h ++ st1C h.length e 4 j ∧ l0 = h.length ∧ l1 = some e ∧ l2 = Int32.ofNat j) (fun z k n h' l0 l1 l2 hI => ?_) z k n h' l0 l1 l2 hz
      obtain ⟨j, rfl, hj, rfl, rfl, rfl, rfl, rfl, rfl⟩ := hI
      unfold PX8_init_80
      have hO := get_app (h := h) (r := st1C h.length e 4 j) (q := 0)
      rw [Nat.add_zero] at hO
      rw [rdP_iff hO]
      refine ⟨_, rfl, ?_⟩
      have hA := get_app (h := h) (r := st1C h.length e 4 j) (q := 2)
      rw [alenP_iff hA, fill_len hj]
      refine ⟨fun hc => ⟨by decide, ?_⟩, fun hc => ?_⟩
      · have : j = 8 := by
          have := (i32_le (i := 8) (j := j) (by omega) (by omega)).mp hc
          omega
        subst this
        exact ⟨rfl, rfl⟩
      · have hj8 : j < 8 := by
          have := mt (i32_le (i := 8) (j := j) (by omega) (by omega)).mpr hc
          omega
        rw [rdP_iff hO]
        refine ⟨_, rfl, astP_of hA (hHe _ _) (i32_nn (by omega)) (by rw [fill_len hj, i32_n (by omega)]; exact hj8) ?_⟩
        refine ⟨8 - (j + 1), by omega, j + 1, rfl, hj8, rfl, rfl, ?_, rfl, rfl, i32_s j⟩
        rw [i32_n (by omega), fill_set hj8, set_app]; rfl
    · obtain ⟨j, rfl, hj, rfl, rfl, rfl, rfl, rfl, rfl⟩ := hI
      unfold PX8_init_56
      have hO := get_app (h := h) (r := st1C h.length e j 0) (q := 0)
      rw [Nat.add_zero] at hO
      rw [rdP_iff hO]
      refine ⟨_, rfl, ?_⟩
      have hA := get_app (h := h) (r := st1C h.length e j 0) (q := 1)
      rw [alenP_iff hA, fill_len hj]
      refine ⟨fun hc => ?_, fun hc => ?_⟩
      · have : j = 4 := by
          have := (i32_le (i := 4) (j := j) (by omega) (by omega)).mp hc
          omega
        subst this
        exact ⟨8, 0, rfl, by omega, rfl, rfl, rfl, rfl, rfl, rfl⟩
      · have hj8 : j < 4 := by
          have := mt (i32_le (i := 4) (j := j) (by omega) (by omega)).mpr hc
          omega
        rw [rdP_iff hO]
        refine ⟨_, rfl, astP_of hA (hHe _ _) (i32_nn (by omega)) (by rw [fill_len hj, i32_n (by omega)]; exact hj8) ?_⟩
        refine ⟨4 - (j + 1), by omega, j + 1, rfl, hj8, rfl, rfl, ?_, rfl, rfl, i32_s j⟩
        rw [i32_n (by omega), fill_set hj8, set_app]; rfl
  · simp [PX8_init_0, wr_at, st1C, fill_zero]
    exact ⟨4, 0, rfl, by omega, by simp [fill], rfl⟩
