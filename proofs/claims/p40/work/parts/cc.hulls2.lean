/-! hulls of shapes, sums of pieces: class and reference have one list of corners -/
theorem tAt_mem {T : List PT} {i : Nat} (h : i < T.length) : tAt T i ∈ T := getD_mem (0, 0) h
theorem mem_tAt {T : List PT} {v : PT} (h : v ∈ T) : ∃ i, i < T.length ∧ tAt T i = v := by
  obtain ⟨i, hi, e⟩ := List.getElem_of_mem h
  refine ⟨i, hi, ?_⟩
  unfold tAt
  rw [List.getD_eq_getElem?_getD, List.getElem?_eq_getElem hi, e]; rfl
theorem mem_vR {V : List PT} (h : V ≠ []) (k : Nat) : vR V k ∈ V := getD_mem (0, 0) (Nat.mod_lt _ (List.length_pos_iff.mpr h))
theorem vR_mem {V : List PT} {v : PT} (h : v ∈ V) : ∃ k, k < V.length ∧ vR V k = v := by
  obtain ⟨i, hi, e⟩ := mem_tAt h
  exact ⟨i, hi, by rw [vR_lt hi]; exact e⟩
theorem Rot.mem {A A' : List PT} (H : Rot A A') (h0 : 0 < A.length) (v : PT) : v ∈ A ↔ v ∈ A' := by
  obtain ⟨hl, s, hs⟩ := H
  constructor
  · intro h
    obtain ⟨k, -, e⟩ := vR_mem h
    rw [← e, hs]
    exact mem_vR (List.length_pos_iff.mp (by omega)) _
  · intro h
    obtain ⟨k, hk, e⟩ := vR_mem h
    have : vR A (k + (A'.length - 1) * s) = v := by
      rw [hs, vR_congr (b := k), e]
      have e2 : s + (k + (A'.length - 1) * s) = k + A'.length * s := by
        obtain ⟨m, hm⟩ : ∃ m, A'.length = m + 1 := ⟨A'.length - 1, by omega⟩
        rw [hm, Nat.add_sub_cancel, Nat.add_mul, Nat.one_mul]; omega
      rw [e2, Nat.add_mul_mod_self_left]
    rw [← this]
    exact mem_vR (List.length_pos_iff.mp h0) _
theorem mem_flat {S : SH} {v : PT} : v ∈ S.flatten ↔ ∃ i, i < S.length ∧ v ∈ S.getD i [] := by
  rw [List.mem_flatten]
  constructor
  · rintro ⟨V, hV, hv⟩
    obtain ⟨i, hi, e⟩ := List.getElem_of_mem hV
    refine ⟨i, hi, ?_⟩
    rw [List.getD_eq_getElem?_getD, List.getElem?_eq_getElem hi, e]; exact hv
  · rintro ⟨i, hi, hv⟩
    exact ⟨_, getD_mem [] hi, hv⟩
theorem SR.mem {S S' : SH} (H : SR S S') (v : PT) : v ∈ S.flatten ↔ v ∈ S'.flatten := by
  rw [mem_flat, mem_flat, ← H.1]
  constructor
  · rintro ⟨i, hi, h⟩
    have c := H.2 i hi
    exact ⟨i, hi, (c.1.mem (by have := c.len; omega) v).mp h⟩
  · rintro ⟨i, hi, h⟩
    have c := H.2 i hi
    exact ⟨i, hi, (c.1.mem (by have := c.len; omega) v).mpr h⟩
section H2S
variable {S S' : SH}
theorem SR.bs (H : SR S S') : Bs S.flatten ∧ Bs S'.flatten := by
  have a : Bs S'.flatten := fun v hv => by
    obtain ⟨i, hi, h⟩ := mem_flat.mp hv
    obtain ⟨q1, q2, q3, q4⟩ := (H.2 i (by rw [H.1]; exact hi)).2.1 v h
    exact ⟨by omega, by omega, by omega, by omega⟩
  exact ⟨fun v hv => a v ((H.mem v).mp hv), a⟩
theorem SR.ne (H : SR S S') (h : S ≠ []) : S.flatten ≠ [] ∧ S'.flatten ≠ [] := by
  have h0 : 0 < S.length := List.length_pos_iff.mpr h
  have c := H.2 0 h0
  have m := mem_vR (V := S.getD 0 []) (List.length_pos_iff.mp (by have := c.len; omega)) 0
  have f := mem_flat.mpr ⟨0, h0, m⟩
  exact ⟨List.ne_nil_of_mem f, List.ne_nil_of_mem ((H.mem _).mp f)⟩
theorem HL.mem {T : List PT} {K : Nat} {V : Nat → Z2} (H : HL T K V) {L : List PT} (hl : L.length = K) (h : ∀ k, k < K → zP (L.getD k (0, 0)) = V k) : low L = 0 ∧ ∀ v, v ∈ L → -18 ≤ v.1.toInt ∧ v.1.toInt ≤ 18 ∧ -18 ≤ v.2.toInt ∧ v.2.toInt ≤ 18 := by
  have h3 := H.2.1.1.1
  have b : ∀ v, v ∈ L → -18 ≤ v.1.toInt ∧ v.1.toInt ≤ 18 ∧ -18 ≤ v.2.toInt ∧ v.2.toInt ≤ 18 := fun v hv => by
    obtain ⟨i, hi, e⟩ := mem_tAt hv
    have q := h i (by omega)
    have e' : L.getD i (0, 0) = v := e
    obtain ⟨j, hj, ej⟩ := H.2.2.2.2.1 i
    rw [e', ← ej] at q
    rw [zP_inj q]
    exact H.1.1.at' j
  refine ⟨low_nil (m := 18) (by decide) b (by omega) fun i h0 hi => ?_, b⟩
  rw [h 0 (by omega), h i (by omega)]
  exact H.2.1.2.1 i (by rw [Nat.mod_eq_of_lt (by omega)]; omega)
end H2S
section SM
variable {A A' B B' : List PT}
end SM
