theorem getD_set {α : Type} {l : List α} {j q : Nat} {x d : α} : (l.set j x).getD q d = if j = q ∧ j < l.length then x else l.getD q d := by
  simp only [List.getD_eq_getElem?_getD, List.getElem?_set]
  by_cases h1 : j = q
  · subst h1
    by_cases h2 : j < l.length
    · simp [h2]
    · simp [h2]
  · simp [h1]
theorem ext_getD {α : Type} {l l2 : List α} (d : α) (hl : l.length = l2.length) (h : ∀ q, q < l.length → l.getD q d = l2.getD q d) : l = l2 := by
  apply List.ext_getElem hl
  intro q h1 h2
  have := h q h1
  simpa [List.getD_eq_getElem?_getD, List.getElem?_eq_getElem h1, List.getElem?_eq_getElem h2] using this
section CP
variable {E : EV} {h : AH} {a b e e2 : Nat} {sl sh sl2 sh2 : List Nat} {xs ys xs2 ys2 : List Int32} {cnt w hh cl w2 hh2 cl2 : Int32} {n : Nat}
theorem s8_copy (H : St h a e sl sh xs ys cnt w hh cl) (O : St h b e2 sl2 sh2 xs2 ys2 (Int32.ofNat n) w2 hh2 cl2) (hn : n ≤ 8) (dj : a + 5 ≤ b ∨ b + 5 ≤ a) (hs : ∀ j, j < 4 → IsSh h (sl2.getD j 0)) (hi : ∀ j, j < n → IsSh h (sh2.getD j 0)) :
    sX8_copy E [aP (some a), aP (some b)] h (kV fun h' => (∃ sh' xs' ys', St h' a e sl2 sh' xs' ys' (Int32.ofNat n) w2 hh2 cl2 ∧ ∀ q, q < n → sh'.getD q 0 = sh2.getD q 0 ∧ xs'.getD q 0 = xs2.getD q 0 ∧ ys'.getD q 0 = ys2.getD q 0) ∧ Fr a (a + 5) h h') := by
  have off : ∀ q, IsSh h q → q < a ∨ a + 5 ≤ q := fun q s => H.off s
  refine eX8_copy (J2 := fun h' l0 l1 l2 => ∃ z j sl', z = 4 - j ∧ j ≤ 4 ∧ l0 = some a ∧ l1 = some b ∧ l2 = Int32.ofNat j ∧ St h' a e sl' sh xs ys cnt w hh cl ∧ (∀ q, q < j → sl'.getD q 0 = sl2.getD q 0) ∧ Fr a (a + 5) h h') (fun X C D h' l0 l1 l2 ⟨z, hz⟩ => ?_) ⟨4, 0, sl, rfl, by omega, rfl, rfl, rfl, H, fun q hq => by omega, Fr.refl⟩
  refine lpX8_copy_2 C D (J30 := fun h' l0 l1 l2 => ∃ z j sh' xs' ys', z = n - j ∧ j ≤ n ∧ l0 = some a ∧ l1 = some b ∧ l2 = Int32.ofNat j ∧ St h' a e sl2 sh' xs' ys' cnt w hh cl ∧ (∀ q, q < j → sh'.getD q 0 = sh2.getD q 0 ∧ xs'.getD q 0 = xs2.getD q 0 ∧ ys'.getD q 0 = ys2.getD q 0) ∧ Fr a (a + 5) h h') (fun h' l0 l1 l2 ⟨z, hz⟩ => ?_) (fun z h' l0 l1 l2 => ∃ j sl', z = 4 - j ∧ j ≤ 4 ∧ l0 = some a ∧ l1 = some b ∧ l2 = Int32.ofNat j ∧ St h' a e sl' sh xs ys cnt w hh cl ∧ (∀ q, q < j → sl'.getD q 0 = sl2.getD q 0) ∧ Fr a (a + 5) h h') (fun z h' l0 l1 l2 hI => ?_) z h' l0 l1 l2 hz
  · refine lpX8_copy_30 C D (fun z h' l0 l1 l2 => ∃ j sh' xs' ys', z = n - j ∧ j ≤ n ∧ l0 = some a ∧ l1 = some b ∧ l2 = Int32.ofNat j ∧ St h' a e sl2 sh' xs' ys' cnt w hh cl ∧ (∀ q, q < j → sh'.getD q 0 = sh2.getD q 0 ∧ xs'.getD q 0 = xs2.getD q 0 ∧ ys'.getD q 0 = ys2.getD q 0) ∧ Fr a (a + 5) h h') (fun z h' l0 l1 l2 hI => ?_) z h' l0 l1 l2 hz
    obtain ⟨j, sh', xs', ys', rfl, hj, rfl, rfl, rfl, S, ag, f⟩ := hI
    have O' := O.fr f (by omega)
    unfold PX8_copy_30
    refine (rdI_iff O'.1).mpr ⟨_, rfl, fun c => ?_, fun c => ?_⟩
    · have hjn : j = n := by have := (i32_le (by omega) (by omega)).mp c; omega
      subst hjn
      refine (rdI_iff O'.1).mpr ⟨_, rfl, (wr_iff S.1).mpr ⟨Nat.le_of_ble_eq_true rfl, ?_⟩⟩
      have S1 : St (h'.set a (.inr (8, [aP (some e), aP (some (a + 1)), aP (some (a + 2)), aP (some (a + 3)), aP (some (a + 4)), aI (Int32.ofNat j), aI w, aI hh, aI cl]))) a e sl2 sh' xs' ys' (Int32.ofNat j) w hh cl := ⟨gs S.1, ⟨gsn (by omega) S.2.1.1, S.2.1.2⟩, ⟨gsn (by omega) S.2.2.1.1, S.2.2.1.2⟩, ⟨gsn (by omega) S.2.2.2.1.1, S.2.2.2.1.2⟩, ⟨gsn (by omega) S.2.2.2.2.1, S.2.2.2.2.2⟩⟩
      have f1 : Fr a (a + 5) h _ := f.trans (Fr.set (x := .inr (8, [aP (some e), aP (some (a + 1)), aP (some (a + 2)), aP (some (a + 3)), aP (some (a + 4)), aI (Int32.ofNat j), aI w, aI hh, aI cl])) (Nat.le_refl a) (by omega))
      refine (rdI_iff (O.fr f1 (by omega)).1).mpr ⟨_, rfl, (wr_iff S1.1).mpr ⟨Nat.le_of_ble_eq_true rfl, ?_⟩⟩
      have S2 : St (List.set (h'.set a (.inr (8, [aP (some e), aP (some (a + 1)), aP (some (a + 2)), aP (some (a + 3)), aP (some (a + 4)), aI (Int32.ofNat j), aI w, aI hh, aI cl]))) a (.inr (8, [aP (some e), aP (some (a + 1)), aP (some (a + 2)), aP (some (a + 3)), aP (some (a + 4)), aI (Int32.ofNat j), aI w2, aI hh, aI cl]))) a e sl2 sh' xs' ys' (Int32.ofNat j) w2 hh cl := ⟨gs S1.1, ⟨gsn (by omega) S1.2.1.1, S.2.1.2⟩, ⟨gsn (by omega) S1.2.2.1.1, S.2.2.1.2⟩, ⟨gsn (by omega) S1.2.2.2.1.1, S.2.2.2.1.2⟩, ⟨gsn (by omega) S1.2.2.2.2.1, S.2.2.2.2.2⟩⟩
      have f2 : Fr a (a + 5) h _ := f1.trans (Fr.set (x := .inr (8, [aP (some e), aP (some (a + 1)), aP (some (a + 2)), aP (some (a + 3)), aP (some (a + 4)), aI (Int32.ofNat j), aI w2, aI hh, aI cl])) (Nat.le_refl a) (by omega))
      refine (rdI_iff (O.fr f2 (by omega)).1).mpr ⟨_, rfl, (wr_iff S2.1).mpr ⟨Nat.le_of_ble_eq_true rfl, ?_⟩⟩
      have f3 : Fr a (a + 5) h _ := f2.trans (Fr.set (x := .inr (8, [aP (some e), aP (some (a + 1)), aP (some (a + 2)), aP (some (a + 3)), aP (some (a + 4)), aI (Int32.ofNat j), aI w2, aI hh2, aI cl])) (Nat.le_refl a) (by omega))
      refine (rdI_iff (O.fr f3 (by omega)).1).mpr ⟨_, rfl, (wr_iff (gs S2.1)).mpr ⟨Nat.le_of_ble_eq_true rfl, ?_⟩⟩
      refine ⟨rfl, ⟨sh', xs', ys', ⟨gs (gs S2.1), ⟨gsn (by omega) (gsn (by omega) S2.2.1.1), S.2.1.2⟩, ⟨gsn (by omega) (gsn (by omega) S2.2.2.1.1), S.2.2.1.2⟩, ⟨gsn (by omega) (gsn (by omega) S2.2.2.2.1.1), S.2.2.2.1.2⟩, ⟨gsn (by omega) (gsn (by omega) S2.2.2.2.2.1), S.2.2.2.2.2⟩⟩, ag⟩, f3.trans (Fr.set (Nat.le_refl a) (by omega))⟩
    · have hjn : j < n := by have := mt (i32_le (i := n) (j := j) (by omega) (by omega)).mpr c; omega
      refine cvP O'.1 (s8_shape O' (by omega)) (cvI O'.1 (s8_x O' (by omega)) (cvI O'.1 (s8_y O' (by omega)) (cvVq S.1 (s8_setItem S (by omega) ((hi j hjn).fr f (off _ (hi j hjn))) _ _) fun h2 q => ?_)))
      refine ⟨n - (j + 1), by omega, j + 1, _, _, _, rfl, hjn, rfl, rfl, i32_s j, q.1, fun q' hq' => ?_, f.trans q.2⟩
      rw [getD_set, getD_set, getD_set, S.2.2.1.2, S.2.2.2.1.2, S.2.2.2.2.2]
      by_cases hqj : j = q'
      · subst hqj
        simp [show j < 8 by omega]
      · simp [hqj]
        exact ag q' (by omega)
  · obtain ⟨j, sl', rfl, hj, rfl, rfl, rfl, S, ag, f⟩ := hI
    have O' := O.fr f (by omega)
    unfold PX8_copy_2
    refine (rdP_iff S.1).mpr ⟨_, rfl, (alenP_iff S.2.1.1).mpr ?_⟩
    rw [rfs_len, S.2.1.2]
    refine ⟨fun c => ?_, fun c => ?_⟩
    · have hj4 : j = 4 := by have := (i32_le (i := 4) (j := j) (by omega) (by omega)).mp c; omega
      subst hj4
      have : sl' = sl2 := ext_getD 0 (by rw [S.2.1.2, O.2.1.2]) (fun q hq => ag q (by rw [S.2.1.2] at hq; exact hq))
      subst this
      exact ⟨n, 0, sh, xs, ys, rfl, by omega, rfl, rfl, rfl, S, fun q hq => by omega, f⟩
    · have hj4 : j < 4 := by have := mt (i32_le (i := 4) (j := j) (by omega) (by omega)).mpr c; omega
      refine (rdP_iff S.1).mpr ⟨_, rfl, cvP O'.1 (s8_slot O' hj4) ?_⟩
      obtain ⟨us, hu⟩ := (hs j hj4).fr f (off _ (hs j hj4))
      refine astP_of S.2.1.1 hu (i32_nn (by omega)) (by rw [i32_n (by omega), rfs_len, S.2.1.2]; exact hj4) ?_
      rw [i32_n (by omega), rfs_set]
      refine ⟨4 - (j + 1), by omega, j + 1, _, rfl, hj4, rfl, rfl, i32_s j, ⟨gsn (by omega) S.1, ⟨gs S.2.1.1, by rw [List.length_set]; exact S.2.1.2⟩, ⟨gsn (by omega) S.2.2.1.1, S.2.2.1.2⟩, ⟨gsn (by omega) S.2.2.2.1.1, S.2.2.2.1.2⟩, ⟨gsn (by omega) S.2.2.2.2.1, S.2.2.2.2.2⟩⟩, fun q' hq' => ?_, f.trans (Fr.set (by omega) (by omega))⟩
      rw [getD_set, S.2.1.2]
      by_cases hqj : j = q'
      · subst hqj
        simp [hj4]
      · simp [hqj]
        exact ag q' (by omega)
end CP
