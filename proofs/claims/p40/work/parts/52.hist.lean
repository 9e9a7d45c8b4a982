theorem spec_mono {E : EV} {y : MethodName} {cc : ByteArray} {nL : Nat} {ret : Option FieldType} {rm : Room} {vals : List AV} {h : AH} {post post' : Option AV → AH → Prop} (H : Spec E y cc nL ret rm vals h post) (k : ∀ v h', post v h' → post' v h') : Spec E y cc nL ret rm vals h post' := by
  intro l p e a1 a2 a3 s m args below b1 b2 b3 b4
  obtain ⟨n, o, q1, q2, q3, ⟨⟨v, h', e1, e2, e3⟩, e4⟩, q5⟩ := H l p e a1 a2 a3 s m args below b1 b2 b3 b4
  exact ⟨n, o, q1, q2, q3, ⟨⟨v, h', e1, k _ _ e2, e3⟩, e4⟩, q5⟩
/-! a state as a value: slots, items (shape, x, y), width, height, clearance -/
abbrev IT : Type := Nat × Int32 × Int32
abbrev SV : Type := List Nat × List IT × Int32 × Int32 × Int32
def StI (h : AH) (a e : Nat) (σ : SV) : Prop := ∃ sh xs ys, St h a e σ.1 sh xs ys (Int32.ofNat σ.2.1.length) σ.2.2.1 σ.2.2.2.1 σ.2.2.2.2 ∧ σ.2.1.length ≤ 8 ∧ ∀ q, q < σ.2.1.length → σ.2.1.getD q (0, 0, 0) = (sh.getD q 0, xs.getD q 0, ys.getD q 0)
def Shs (h : AH) (σ : SV) : Prop := (∀ j, j < 4 → IsSh h (σ.1.getD j 0)) ∧ ∀ j, j < σ.2.1.length → IsSh h (σ.2.1.getD j (0, 0, 0)).1
theorem StI.fr {h h' : AH} {a e lo hi : Nat} {σ : SV} (H : StI h a e σ) (f : Fr lo hi h h') (d : a + 5 ≤ lo ∨ hi ≤ a) : StI h' a e σ := by
  obtain ⟨sh, xs, ys, S, h8, ag⟩ := H
  exact ⟨sh, xs, ys, S.fr f d, h8, ag⟩
theorem StI.off {h : AH} {a e q : Nat} {σ : SV} (H : StI h a e σ) (s : IsSh h q) : q < a ∨ a + 5 ≤ q := by
  obtain ⟨sh, xs, ys, S, h8, ag⟩ := H
  exact S.off s
section HI
variable {E : EV} {h : AH} {a b e e2 : Nat} {σ σ2 : SV}
theorem t8_copy (H : StI h a e σ) (O : StI h b e2 σ2) (dj : a + 5 ≤ b ∨ b + 5 ≤ a) (s : Shs h σ2) : sX8_copy E [aP (some a), aP (some b)] h (kV fun h' => StI h' a e σ2 ∧ Fr a (a + 5) h h') := by
  obtain ⟨sh, xs, ys, S, h8, ag⟩ := H
  obtain ⟨sh2, xs2, ys2, S2, h82, ag2⟩ := O
  have hi : ∀ j, j < σ2.2.1.length → IsSh h (sh2.getD j 0) := fun j hj => by
    have := s.2 j hj
    rw [ag2 j hj] at this; exact this
  obtain ⟨sl2, its2, w2, hh2, cl2⟩ := σ2
  have := s8_copy (E := E) S S2 h82 dj s.1 hi
  refine spec_mono this ?_
  rintro v h' ⟨rfl, ⟨sh', xs', ys', S', ag'⟩, f⟩
  refine ⟨rfl, ⟨sh', xs', ys', S', h82, fun q hq => ?_⟩, f⟩
  obtain ⟨g1, g2, g3⟩ := ag' q hq
  have := ag2 q hq
  rw [g1, g2, g3]; exact this
theorem t8_setSlot (H : StI h a e σ) {j : Nat} (hj : j < 4) (hb : IsSh h b) : sX8_setSlot E [aP (some a), aI (Int32.ofNat j), aP (some b)] h (kV fun h' => StI h' a e (σ.1.set j b, σ.2) ∧ Fr a (a + 5) h h') := by
  obtain ⟨sh, xs, ys, S, h8, ag⟩ := H
  exact spec_mono (s8_setSlot S hj hb) fun v h' ⟨e1, q⟩ => ⟨e1, ⟨sh, xs, ys, q.1, h8, ag⟩, q.2⟩
theorem t8_setPlace (H : StI h a e σ) {j : Nat} (hj : j < σ.2.1.length) (x y : Int32) : sX8_setPlace E [aP (some a), aI (Int32.ofNat j), aI x, aI y] h (kV fun h' => StI h' a e (σ.1, σ.2.1.set j ((σ.2.1.getD j (0, 0, 0)).1, x, y), σ.2.2) ∧ Fr a (a + 5) h h') := by
  obtain ⟨sh, xs, ys, S, h8, ag⟩ := H
  refine spec_mono (s8_setPlace S (by omega) x y) fun v h' ⟨e1, q⟩ => ⟨e1, ⟨sh, _, _, by rw [List.length_set]; exact q.1, by rw [List.length_set]; exact h8, fun q' hq' => ?_⟩, q.2⟩
  rw [List.length_set] at hq'
  rw [getD_set, getD_set, getD_set, S.2.2.2.1.2, S.2.2.2.2.2]
  by_cases c : j = q'
  · subst c
    simp only [hj, and_self, if_true, show j < 8 by omega]
    rw [ag j hj]
  · simp only [c, false_and, if_false]
    exact ag q' hq'
theorem t8_add (H : StI h a e σ) (hn : σ.2.1.length < 8) (hb : IsSh h b) (x y : Int32) : sX8_add E [aP (some a), aP (some b), aI x, aI y] h (kV fun h' => StI h' a e (σ.1, σ.2.1 ++ [(b, x, y)], σ.2.2) ∧ Fr a (a + 5) h h') := by
  obtain ⟨sh, xs, ys, S, h8, ag⟩ := H
  refine eX8_add ?_
  unfold PX8_add_0
  refine (rdI_iff S.1).mpr ⟨_, rfl, (rdP_iff S.1).mpr ⟨_, rfl, (alenP_iff S.2.2.1.1).mpr ?_⟩⟩
  rw [rfs_len, S.2.2.1.2]
  refine ⟨fun c => absurd ((i32_le (by omega) (by omega)).mp c) (by omega), fun _ => (rdI_iff S.1).mpr ⟨_, rfl, cvVq S.1 (s8_setItem S hn hb x y) fun h1 q => ?_⟩⟩
  obtain ⟨S1, f1⟩ := q
  refine (rdI_iff S1.1).mpr ⟨_, rfl, (wr_iff S1.1).mpr ⟨Nat.le_of_ble_eq_true rfl, rfl, ⟨_, _, _, ⟨?_, ⟨gsn (by omega) S1.2.1.1, S1.2.1.2⟩, ⟨gsn (by omega) S1.2.2.1.1, S1.2.2.1.2⟩, ⟨gsn (by omega) S1.2.2.2.1.1, S1.2.2.2.1.2⟩, ⟨gsn (by omega) S1.2.2.2.2.1, S1.2.2.2.2.2⟩⟩, ?_, fun q' hq' => ?_⟩, f1.trans (Fr.set (by omega) (by omega))⟩⟩
  · rw [gs S1.1, i32_s]; simp
  · simp; omega
  · simp at hq'
    rw [getD_set, getD_set, getD_set, S.2.2.1.2, S.2.2.2.1.2, S.2.2.2.2.2]
    by_cases c : σ.2.1.length = q'
    · subst c
      simp [hn]
    · simp only [c, false_and, if_false]
      have hq2 : q' < σ.2.1.length := by omega
      rw [← ag q' hq2]
      simp [List.getD_eq_getElem?_getD, List.getElem?_append_left hq2]
theorem t8_remove (H : StI h a e σ) {i : Nat} (hi : i < σ.2.1.length) (hs : ∀ j, j < σ.2.1.length → IsSh h (σ.2.1.getD j (0, 0, 0)).1) : sX8_remove E [aP (some a), aI (Int32.ofNat i)] h (kV fun h' => StI h' a e (σ.1, σ.2.1.eraseIdx i, σ.2.2) ∧ Fr a (a + 5) h h') := by
  obtain ⟨sh, xs, ys, S, h8, ag⟩ := H
  have hs' : ∀ j, j < σ.2.1.length → IsSh h (sh.getD j 0) := fun j hj => by
    have := hs j hj; rw [ag j hj] at this; exact this
  generalize hn : σ.2.1.length = n at *
  have h51 : Int32.ofNat n - 1 = Int32.ofNat (n - 1) := by
    rw [← Int32.toInt_inj, Int32.toInt_sub, i32_lt (by omega), i32_lt (by omega)]
    have : (1 : Int32).toInt = 1 := by decide
    rw [this]; simp only [Int.bmod]; omega
  refine eX8_remove (J2 := fun h' l0 l2 => ∃ z j sh' xs' ys', z = n - j ∧ i ≤ j ∧ j < n ∧ l0 = some a ∧ l2 = Int32.ofNat j ∧ St h' a e σ.1 sh' xs' ys' (Int32.ofNat n) σ.2.2.1 σ.2.2.2.1 σ.2.2.2.2 ∧ (∀ q, q < n → ∀ p, p = (if i ≤ q ∧ q < j then q + 1 else q) → sh'.getD q 0 = sh.getD p 0 ∧ xs'.getD q 0 = xs.getD p 0 ∧ ys'.getD q 0 = ys.getD p 0) ∧ Fr a (a + 5) h h') (fun X C D h' l0 l2 ⟨z, hz⟩ => ?_) ⟨n - i, i, sh, xs, ys, rfl, Nat.le_refl _, hi, rfl, rfl, S, fun q hq p hp => by rw [if_neg (by omega)] at hp; subst hp; exact ⟨rfl, rfl, rfl⟩, Fr.refl⟩
  refine lpX8_remove_2 C D (fun z h' l0 l2 => ∃ j sh' xs' ys', z = n - j ∧ i ≤ j ∧ j < n ∧ l0 = some a ∧ l2 = Int32.ofNat j ∧ St h' a e σ.1 sh' xs' ys' (Int32.ofNat n) σ.2.2.1 σ.2.2.2.1 σ.2.2.2.2 ∧ (∀ q, q < n → ∀ p, p = (if i ≤ q ∧ q < j then q + 1 else q) → sh'.getD q 0 = sh.getD p 0 ∧ xs'.getD q 0 = xs.getD p 0 ∧ ys'.getD q 0 = ys.getD p 0) ∧ Fr a (a + 5) h h') (fun z h' l0 l2 hI => ?_) z h' l0 l2 hz
  obtain ⟨j, sh', xs', ys', rfl, hij, hj, rfl, rfl, S', ag', f⟩ := hI
  unfold PX8_remove_2
  refine (rdI_iff S'.1).mpr ⟨_, rfl, fun c => ?_, fun c => ?_⟩
  · rw [h51] at c
    have hjn : n - 1 ≤ j := (i32_le (by omega) (by omega)).mp c
    have hjn : j = n - 1 := by omega
    subst hjn
    refine (rdI_iff S'.1).mpr ⟨_, rfl, (wr_iff S'.1).mpr ⟨Nat.le_of_ble_eq_true rfl, rfl, ⟨sh', xs', ys', ⟨?_, ⟨gsn (by omega) S'.2.1.1, S'.2.1.2⟩, ⟨gsn (by omega) S'.2.2.1.1, S'.2.2.1.2⟩, ⟨gsn (by omega) S'.2.2.2.1.1, S'.2.2.2.1.2⟩, ⟨gsn (by omega) S'.2.2.2.2.1, S'.2.2.2.2.2⟩⟩, ?_, fun q' hq' => ?_⟩, f.trans (Fr.set (by omega) (by omega))⟩⟩
    · rw [gs S'.1, h51]
      simp [List.length_eraseIdx, hn, hi]
    · simp [List.length_eraseIdx, hn, hi]; omega
    · simp only [List.length_eraseIdx, hn, hi, if_true] at hq'
      obtain ⟨g1, g2, g3⟩ := ag' q' (by omega) _ rfl
      rw [g1, g2, g3, ← ag _ (by split <;> omega)]
      simp only [List.getD_eq_getElem?_getD, List.getElem?_eraseIdx]
      by_cases c2 : q' < i
      · rw [if_pos c2, if_neg (by omega)]
      · rw [if_neg c2, if_pos (by omega)]
  · rw [h51] at c
    have hjn : ¬ n - 1 ≤ j := fun q => c ((i32_le (by omega) (by omega)).mpr q)
    have e1 : Int32.ofNat j + 1 = Int32.ofNat (j + 1) := i32_s j
    rw [e1]
    obtain ⟨g1, g2, g3⟩ := ag' (j + 1) (by omega) (j + 1) (by rw [if_neg (by omega)])
    refine cvP S'.1 (s8_shape S' (by omega)) (cvI S'.1 (s8_x S' (by omega)) (cvI S'.1 (s8_y S' (by omega)) (cvVq S'.1 (s8_setItem S' (by omega) ?_ _ _) fun h2 q => ?_)))
    · rw [g1]; exact (hs' _ (by omega)).fr f (S.off (hs' _ (by omega)))
    · refine ⟨n - (j + 1), by omega, j + 1, _, _, _, rfl, by omega, by omega, rfl, rfl, q.1, fun q' hq' p hp => ?_, f.trans q.2⟩
      rw [getD_set, getD_set, getD_set, S'.2.2.1.2, S'.2.2.2.1.2, S'.2.2.2.2.2]
      by_cases c3 : j = q'
      · subst c3
        rw [if_pos (by omega)] at hp
        subst hp
        simp only [true_and, show j < 8 by omega, if_true]
        exact ⟨g1, g2, g3⟩
      · simp only [c3, false_and, if_false]
        exact ag' q' hq' p (by rw [hp]; split <;> split <;> omega)
end HI
