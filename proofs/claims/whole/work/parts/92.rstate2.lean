/-! the reference's parts of a change of state -/
def qt (v : PT) : PT := (-v.2, v.1)
def qtS (S : SH) : SH := S.map (List.map qt)
theorem getD_mapq {α β : Type} {l : List α} {f : α → β} {j : Nat} {d : α} {e : β} (h : j < l.length) : (l.map f).getD j e = f (l.getD j d) := by
  rw [List.getD_eq_getElem?_getD, List.getD_eq_getElem?_getD, List.getElem?_map, List.getElem?_eq_getElem h]; rfl
section RU
variable {E : EV} {h : AH} {z : Sc} {k : MK} {cs : List Int32} {σ : RV} {ps : List RV}
theorem fr4 {x : AE} : Fr 314 315 h (h.set 314 x) := Fr.set (by omega) (by omega)
theorem m11_goesBack {τ : RV} (H : MoZ h z k) (P : MsK k σ (ps ++ [τ])) : sX11_goesBack E [aP (some 313)] h (kV fun h' => ∃ s, MoZ h' z (s, k.2.1, k.2.2.1, Int32.ofNat ps.length, k.2.2.2.2) ∧ MsK (s, k.2.1, k.2.2.1, Int32.ofNat ps.length, k.2.2.2.2) τ ps ∧ Fr 313 316 h h') := by
  obtain ⟨P1, P2, P3, P4⟩ := id P
  have el : (ps ++ [τ]).length = ps.length + 1 := by rw [List.length_append]; rfl
  rw [el] at P2 P3 P4
  refine uX11_goesBack (fun m h' l0 l1 => ∃ j s, m = 600 - j ∧ l0 = some 313 ∧ l1 = Int32.ofNat j ∧ j ≤ 500 ∧ MoZ h' z (s, k.2.1, k.2.2.1, Int32.ofNat ps.length, k.2.2.2.2) ∧ (∀ i, i < j → s.getD i 0 = k.2.1.getD (500 * ps.length + i) 0) ∧ Fr 313 316 h h') ?_ ?_
  · unfold PX11_goesBack_0
    refine (rdI_iff H.1).mpr ⟨_, rfl, (wr_iff H.1).mpr ⟨Nat.le_of_ble_eq_true rfl, ?_⟩⟩
    have e1 : k.2.2.2.1 - 1 = Int32.ofNat ps.length := by rw [P2, i32_pred (by omega) (by omega)]; rfl
    refine ⟨_, 0, k.1, rfl, rfl, rfl, by omega, ?_, fun i hi => absurd hi (by omega), frM (by omega) (by omega)⟩
    rw [← e1]; exact H.cnt _ _
  · rintro m h' l0 l1 ⟨j, s, rfl, rfl, rfl, hj, H', hs, f⟩
    have len : s.length = 580 := H'.2.1.2
    unfold PX11_goesBack_12
    refine ⟨fun c => ?_, fun c => ?_⟩
    · have c := (i32_le (i := 500) (by omega) (by omega)).mp c
      refine ⟨rfl, s, H', ⟨?_, rfl, by show ps.length ≤ 6; omega, fun j hj => ?_⟩, f⟩
      · have := P4 ps.length (by omega)
        rw [getD_app, if_neg (by omega), if_pos rfl] at this
        exact this.same fun i hi => hs i (by omega)
      · have := P4 j (by omega)
        rw [getD_app, if_pos hj] at this
        exact this
    · have c := mt (i32_le (i := 500) (j := j) (by omega) (by omega)).mpr c
      refine (rdP_iff H'.1).mpr ⟨_, rfl, (rdP_iff H'.1).mpr ⟨_, rfl, (rdI_iff H'.1).mpr ⟨_, rfl, ?_⟩⟩⟩
      rw [show (500 : Int32) * Int32.ofNat ps.length + Int32.ofNat j = Int32.ofNat (500 * ps.length + j) by rw [Int32.ofNat_add, Int32.ofNat_mul]; rfl]
      refine H'.ldp (by omega) (H'.st (by omega) ⟨_, by omega, j + 1, _, rfl, rfl, i32_s _, by omega, H'.set1 _ _, fun i hi => ?_, f.trans (frM (by omega) (by omega))⟩)
      show (s.set _ _).getD _ 0 = _
      rw [getD_set, len]
      by_cases ci : i = j
      · subst ci; rw [if_pos ⟨rfl, by omega⟩]
      · rw [if_neg (by omega)]; exact hs i (by omega)
theorem m11_copy (H : MoZ h z k) {a b : Nat} (ha : a + 40 ≤ 580) (hb : b + 40 ≤ 580) (hd : a = b ∨ a + 40 ≤ b ∨ b + 40 ≤ a) : sX11_copy E [aP (some 313), aI (Int32.ofNat a), aI (Int32.ofNat b)] h (kV fun h' => ∃ s, MoZ h' z (s, k.2) ∧ (∀ i, s.getD i 0 = if b ≤ i ∧ i < b + 40 then sA k (a + (i - b)) else sA k i) ∧ Fr 314 315 h h') := by
  refine uX11_copy (fun m h' l0 l1 l2 l3 => ∃ j s, m = 50 - j ∧ l0 = some 313 ∧ l1 = Int32.ofNat a ∧ l2 = Int32.ofNat b ∧ l3 = Int32.ofNat j ∧ j ≤ 40 ∧ MoZ h' z (s, k.2) ∧ (∀ i, s.getD i 0 = if b ≤ i ∧ i < b + j then sA k (a + (i - b)) else sA k i) ∧ Fr 314 315 h h') ?_ ?_
  · unfold PX11_copy_0
    exact ⟨_, 0, k.1, rfl, rfl, rfl, rfl, rfl, by omega, H, fun i => by rw [if_neg (by omega)]; rfl, Fr.refl⟩
  · rintro m h' l0 l1 l2 l3 ⟨j, s, rfl, rfl, rfl, rfl, rfl, hj, H', hs, f⟩
    have len : s.length = 580 := H'.2.1.2
    unfold PX11_copy_2
    refine ⟨fun c => ?_, fun c => ?_⟩
    · have c := (i32_le (i := 40) (by omega) (by omega)).mp c
      have : j = 40 := by omega
      subst this
      exact ⟨rfl, s, H', hs, f⟩
    · have c := mt (i32_le (i := 40) (j := j) (by omega) (by omega)).mpr c
      refine (rdP_iff H'.1).mpr ⟨_, rfl, (rdP_iff H'.1).mpr ⟨_, rfl, ?_⟩⟩
      rw [i32_add, i32_add]
      refine H'.ld (by omega) (H'.st (by omega) ⟨_, by omega, j + 1, _, rfl, rfl, rfl, rfl, i32_s _, by omega, H'.set1 _ _, fun i => ?_, f.trans fr4⟩)
      show (s.set _ (s.getD (a + j) 0)).getD _ 0 = _
      have e : s.getD (a + j) 0 = sA k (a + j) := by
        rw [hs]
        split
        · rename_i q; congr 1; omega
        · rfl
      rw [getD_set, len, e]
      by_cases ci : i = b + j
      · subst ci; rw [if_pos ⟨rfl, by omega⟩, if_pos (by omega)]; congr 1; omega
      · rw [if_neg (by omega), hs]
        by_cases c2 : b ≤ i ∧ i < b + j
        · rw [if_pos c2, if_pos (by omega)]
        · rw [if_neg c2, if_neg (by omega)]
theorem m11_turn (H : MoZ h z k) {b : Nat} {S : SH} (B : Blk k b S) : sX11_turn E [aP (some 313), aI (Int32.ofNat b)] h (kV fun h' => ∃ s, MoZ h' z (s, k.2) ∧ Blk (s, k.2) b (qtS S) ∧ (∀ i, i < b ∨ b + 40 ≤ i → s.getD i 0 = sA k i) ∧ Fr 314 315 h h') := by
  obtain ⟨hb, B1, B2, B3⟩ := B
  refine uX11_turn (fun m h' l0 l1 l2 => ∃ j s, m = 50 - j ∧ l0 = some 313 ∧ l1 = Int32.ofNat b ∧ l2 = Int32.ofNat (4 + 2 * j) ∧ j ≤ 18 ∧ MoZ h' z (s, k.2) ∧ (∀ i, i < b + 4 ∨ b + 4 + 2 * j ≤ i → s.getD i 0 = sA k i) ∧ (∀ t, t < j → s.getD (b + 4 + 2 * t) 0 = -sA k (b + 5 + 2 * t) ∧ s.getD (b + 5 + 2 * t) 0 = sA k (b + 4 + 2 * t)) ∧ Fr 314 315 h h') ?_ ?_
  · unfold PX11_turn_0
    exact ⟨_, 0, k.1, rfl, rfl, rfl, rfl, by omega, H, fun i hi => rfl, fun t ht => absurd ht (by omega), Fr.refl⟩
  · rintro m h' l0 l1 l2 ⟨j, s, rfl, rfl, rfl, rfl, hj, H', ho, ht, f⟩
    have len : s.length = 580 := H'.2.1.2
    unfold PX11_turn_2
    refine ⟨fun c => ?_, fun c => ?_⟩
    · have c := (i32_le (i := 40) (by omega) (by omega)).mp c
      have : j = 18 := by omega
      subst this
      have lS : (qtS S).length = S.length := by unfold qtS; rw [List.length_map]
      have gS : ∀ p, p < S.length → (qtS S).getD p [] = (S.getD p []).map qt := fun p hp => getD_mapq hp
      refine ⟨rfl, s, H', ⟨hb, by rw [lS]; exact B1, by rw [lS, ← B2]; exact ho _ (by omega), fun p hp => ?_⟩, fun i hi => ho i (by omega), f⟩
      rw [lS] at hp
      obtain ⟨c1, c2, c3⟩ := B3 p hp
      rw [gS p hp, List.length_map]
      refine ⟨by rw [← c1]; exact ho _ (by omega), c2, fun v hv => ?_⟩
      have e := ht (6 * p + v) (by omega)
      have cc := c3 v hv
      have g : ((S.getD p []).map qt).getD v (0, 0) = qt ((S.getD p []).getD v (0, 0)) := getD_mapq hv
      rw [g, ← cc]
      have i1 : b + 4 + 12 * p + 2 * v = b + 4 + 2 * (6 * p + v) := by omega
      have i2 : b + 5 + 12 * p + 2 * v = b + 5 + 2 * (6 * p + v) := by omega
      rw [i1, i2]
      exact Prod.ext e.1 e.2
    · have c := mt (i32_le (i := 40) (j := 4 + 2 * j) (by omega) (by omega)).mpr c
      refine (rdP_iff H'.1).mpr ⟨_, rfl, ?_⟩
      rw [i32_add, i32_s]
      refine H'.ld (by omega) ((rdP_iff H'.1).mpr ⟨_, rfl, (rdP_iff H'.1).mpr ⟨_, rfl, H'.ld (by omega) (H'.st (by omega) ?_)⟩⟩)
      have H1 := H'.set1 (b + (4 + 2 * j)) (-sA (s, k.2) (b + (4 + 2 * j) + 1))
      refine (rdP_iff H1.1).mpr ⟨_, rfl, H1.st (by omega) ?_⟩
      have H2 := H1.set1 (b + (4 + 2 * j) + 1) (sA (s, k.2) (b + (4 + 2 * j)))
      have e1 : sA (s, k.2) (b + (4 + 2 * j)) = sA k (b + 4 + 2 * j) := (ho _ (by omega)).trans (by congr 1; omega)
      have e2 : sA (s, k.2) (b + (4 + 2 * j) + 1) = sA k (b + 5 + 2 * j) := (ho _ (by omega)).trans (by congr 1; omega)
      have g : ∀ i, ((s.set (b + (4 + 2 * j)) (-sA (s, k.2) (b + (4 + 2 * j) + 1))).set (b + (4 + 2 * j) + 1) (sA (s, k.2) (b + (4 + 2 * j)))).getD i 0 = if i = b + 5 + 2 * j then sA k (b + 4 + 2 * j) else if i = b + 4 + 2 * j then -sA k (b + 5 + 2 * j) else s.getD i 0 := fun i => by
        rw [getD_set, getD_set, List.length_set, len, e1, e2]
        by_cases c1 : i = b + 5 + 2 * j
        · rw [if_pos c1, if_pos (by omega)]
        · rw [if_neg c1, if_neg (by omega)]
          by_cases c2 : i = b + 4 + 2 * j
          · rw [if_pos c2, if_pos (by omega)]
          · rw [if_neg c2, if_neg (by omega)]
      refine ⟨_, by omega, j + 1, _, rfl, rfl, rfl, by rw [show 4 + 2 * (j + 1) = (4 + 2 * j) + 2 by omega, Int32.ofNat_add (4 + 2 * j) 2]; rfl, by omega, H2, fun i hi => ?_, fun t htt => ?_, (f.trans fr4).trans fr4⟩
      · exact (g i).trans (by rw [if_neg (by omega), if_neg (by omega)]; exact ho i (by omega))
      · by_cases ct : t = j
        · subst ct
          exact ⟨(g _).trans (by rw [if_neg (by omega), if_pos rfl]), (g _).trans (by rw [if_pos rfl])⟩
        · have := ht t (by omega)
          exact ⟨(g _).trans (by rw [if_neg (by omega), if_neg (by omega)]; exact this.1), (g _).trans (by rw [if_neg (by omega), if_neg (by omega)]; exact this.2)⟩
theorem m11_exchanges (H : MoZ h z k) {w : List Int32} (hw : h[322]? = some (.inl (0, w))) (lw : w.length = 500) : sX11_exchanges E [aP (some 313)] h (kV fun h' => ∃ s w', MoZ h' z (s, k.2) ∧ h'[322]? = some (.inl (0, w')) ∧ w'.length = 500 ∧ (∀ i, i < 500 → s.getD i 0 = w.getD i 0 ∧ w'.getD i 0 = sA k i) ∧ (∀ i, 500 ≤ i → s.getD i 0 = sA k i) ∧ Fr 313 323 h h') := by
  refine uX11_exchanges (fun m h' l0 l1 => ∃ j s w', m = 600 - j ∧ l0 = some 313 ∧ l1 = Int32.ofNat j ∧ j ≤ 500 ∧ MoZ h' z (s, k.2) ∧ h'[322]? = some (.inl (0, w')) ∧ w'.length = 500 ∧ (∀ i, i < j → s.getD i 0 = w.getD i 0 ∧ w'.getD i 0 = sA k i) ∧ (∀ i, j ≤ i → s.getD i 0 = sA k i ∧ w'.getD i 0 = w.getD i 0) ∧ Fr 313 323 h h') ?_ ?_
  · unfold PX11_exchanges_0
    exact ⟨_, 0, k.1, w, rfl, rfl, rfl, by omega, H, hw, lw, fun i hi => absurd hi (by omega), fun i _ => ⟨rfl, rfl⟩, Fr.refl⟩
  · rintro m h' l0 l1 ⟨j, s, w', rfl, rfl, rfl, hj, H', hw', lw', h1, h2, f⟩
    have len : s.length = 580 := H'.2.1.2
    unfold PX11_exchanges_2
    refine ⟨fun c => ?_, fun c => ?_⟩
    · have c := (i32_le (i := 500) (by omega) (by omega)).mp c
      have : j = 500 := by omega
      subst this
      exact ⟨rfl, s, w', H', hw', lw', h1, fun i hi => (h2 i hi).1, f⟩
    · have c := mt (i32_le (i := 500) (j := j) (by omega) (by omega)).mpr c
      refine (rdP_iff H'.1).mpr ⟨_, rfl, H'.ld (by omega) ((rdP_iff H'.1).mpr ⟨_, rfl, (rdP_iff H'.1).mpr ⟨_, rfl, ?_⟩⟩)⟩
      refine aldI_of hw' (i32_nn (by omega)) (by rw [i32_n (by omega)]; exact getD_get (by omega)) (H'.st (by omega) ?_)
      have H1 := H'.set1 j (w'.getD j 0)
      have g1 := gsn (x := .inl (0, s.set j (w'.getD j 0))) (show 314 ≠ 322 by omega) hw'
      refine (rdP_iff H1.1).mpr ⟨_, rfl, _, _, rfl, g1, i32_nn (by omega), by rw [i32_n (by omega)]; omega, ?_⟩
      rw [i32_n (by omega)]
      obtain ⟨a0, a1, a2, a3, a4, a5, a6, a7, a8, a9⟩ := H1
      have ff : Fr 322 323 (h'.set 314 (.inl (0, s.set j (w'.getD j 0)))) ((h'.set 314 (.inl (0, s.set j (w'.getD j 0)))).set 322 (.inl (0, w'.set j (sA (s, k.2) j)))) := Fr.set (by omega) (by omega)
      refine ⟨_, by omega, j + 1, s.set j (w'.getD j 0), w'.set j (sA (s, k.2) j), rfl, rfl, i32_s _, by omega, ?_, gs g1, (List.length_set ..).trans lw', fun i hi => ?_, fun i hi => ?_, (f.trans (fr4.weak (by omega) (by omega))).trans (ff.weak (by omega) (by omega))⟩
      · exact ⟨(ff.2 _ (by omega)).trans a0, ⟨(ff.2 _ (by omega)).trans a1.1, a1.2⟩, ⟨(ff.2 _ (by omega)).trans a2.1, a2.2⟩, ⟨(ff.2 _ (by omega)).trans a3.1, a3.2⟩, a4.fr ff (by omega), a5.fr ff (by omega), a6.fr ff (by omega), a7.fr ff (by omega), a8.fr ff (by omega), ⟨_, gs g1, (List.length_set ..).trans lw'⟩⟩
      · rw [getD_set, getD_set, len, lw']
        by_cases ci : i = j
        · subst ci; rw [if_pos ⟨rfl, by omega⟩, if_pos ⟨rfl, by omega⟩]; exact ⟨(h2 i (by omega)).2, (h2 i (by omega)).1⟩
        · rw [if_neg (by omega), if_neg (by omega)]; exact h1 i (by omega)
      · rw [getD_set, getD_set, if_neg (by omega), if_neg (by omega)]; exact h2 i (by omega)
theorem m11_puts (H : MoZ h z k) (P : RsF (sA k) σ) (h8 : σ.2.1.length < 8) {b : Nat} {S : SH} (B : Blk k b S) (hb : b + 40 ≤ 164 ∨ 500 ≤ b) (x y : Int32) : sX11_puts E [aP (some 313), aI (Int32.ofNat b), aI x, aI y] h (kI fun r h' => r = Int32.ofNat σ.2.1.length ∧ ∃ s, MoZ h' z (s, k.2) ∧ RsF (sA (s, k.2)) (σ.1, σ.2.1 ++ [(S, x, y)], σ.2.2) ∧ (∀ i, 500 ≤ i → s.getD i 0 = sA k i) ∧ Fr 314 315 h h') := by
  refine eX11_puts ?_
  unfold PX11_puts_0
  obtain ⟨P1, P2, P3, P4, P5⟩ := P
  obtain ⟨bb, B⟩ := B
  generalize hn : σ.2.1.length = n at *
  refine (rdP_iff H.1).mpr ⟨_, rfl, H.ld (i := 3) (by omega) ?_⟩
  rw [P3]
  refine csI (m11_itemShape n) (cvVq H.1 (m11_copy H bb (by omega) (by omega)) fun h7 q7 => ?_)
  obtain ⟨s7, H7, hs, f7⟩ := q7
  have l7 : s7.length = 580 := H7.2.1.2
  refine (rdP_iff H7.1).mpr ⟨_, rfl, csI (m11_itemShape n) ?_⟩
  rw [show Int32.ofNat (164 + 42 * n) + 40 = Int32.ofNat (204 + 42 * n) by rw [show 204 + 42 * n = (164 + 42 * n) + 40 by omega, Int32.ofNat_add (164 + 42 * n)]; rfl]
  refine H7.st (by omega) ?_
  have H8 := H7.set1 (204 + 42 * n) x
  refine (rdP_iff H8.1).mpr ⟨_, rfl, csI (m11_itemShape n) ?_⟩
  rw [show Int32.ofNat (164 + 42 * n) + 40 + 1 = Int32.ofNat (205 + 42 * n) by rw [show 205 + 42 * n = (164 + 42 * n) + 41 by omega, Int32.ofNat_add (164 + 42 * n), Int32.add_assoc]; rfl]
  refine H8.st (by omega) ?_
  have H9 := H8.set1 (205 + 42 * n) y
  refine (rdP_iff H9.1).mpr ⟨_, rfl, H9.ld (i := 3) (by omega) (H9.st (i := 3) (by omega) ?_)⟩
  have H10 := H9.set1 3 (sA ((s7.set (204 + 42 * n) x).set (205 + 42 * n) y, k.2) 3 + 1)
  have g : ∀ i, i ≠ 3 → (((s7.set (204 + 42 * n) x).set (205 + 42 * n) y).set 3 (sA ((s7.set (204 + 42 * n) x).set (205 + 42 * n) y, k.2) 3 + 1)).getD i 0 = if i = 205 + 42 * n then y else if i = 204 + 42 * n then x else s7.getD i 0 := fun i c0 => by
    rw [getD_set, getD_set, getD_set, List.length_set, List.length_set, l7]
    rw [if_neg (by omega)]
    by_cases c1 : i = 205 + 42 * n
    · rw [if_pos c1, if_pos (by omega)]
    · rw [if_neg c1, if_neg (by omega)]
      by_cases c2 : i = 204 + 42 * n
      · rw [if_pos c2, if_pos (by omega)]
      · rw [if_neg c2, if_neg (by omega)]
  have g3 : (((s7.set (204 + 42 * n) x).set (205 + 42 * n) y).set 3 (sA ((s7.set (204 + 42 * n) x).set (205 + 42 * n) y, k.2) 3 + 1)).getD 3 0 = Int32.ofNat (n + 1) := by
    rw [getD_set, if_pos ⟨rfl, by rw [List.length_set, List.length_set, l7]; omega⟩]
    have : sA ((s7.set (204 + 42 * n) x).set (205 + 42 * n) y, k.2) 3 = Int32.ofNat n := by
      show ((s7.set (204 + 42 * n) x).set (205 + 42 * n) y).getD 3 0 = _
      rw [getD_set, getD_set, if_neg (by omega), if_neg (by omega), hs, if_neg (by omega), P3]
    rw [this, i32_s]
  have gk : ∀ i, i ≠ 3 → (i < 164 + 42 * n ∨ 206 + 42 * n ≤ i) → (((s7.set (204 + 42 * n) x).set (205 + 42 * n) y).set 3 (sA ((s7.set (204 + 42 * n) x).set (205 + 42 * n) y, k.2) 3 + 1)).getD i 0 = sA k i := fun i c0 c1 => by
    rw [g i c0, if_neg (by omega), if_neg (by omega), hs, if_neg (by omega)]
  have el : (σ.2.1 ++ [(S, x, y)]).length = n + 1 := by rw [List.length_append, hn]; rfl
  refine ⟨_, rfl, rfl, _, H10, ⟨⟨P1.1, by show (σ.2.1 ++ [(S, x, y)]).length ≤ 8; rw [el]; omega⟩, ⟨?_, ?_, ?_⟩, ?_, fun j hj => ?_, fun i hi => ?_⟩, fun i hi => gk i (by omega) (by omega), ((f7.trans fr4).trans fr4).trans fr4⟩
  · exact (gk 0 (by omega) (by omega)).trans P2.1
  · exact (gk 1 (by omega) (by omega)).trans P2.2.1
  · exact (gk 2 (by omega) (by omega)).trans P2.2.2
  · show _ = Int32.ofNat (σ.2.1 ++ [(S, x, y)]).length
    rw [el]; exact g3
  · exact (P4 j hj).same fun i h1 h2 => gk i (by omega) (by omega)
  · have hi : i < (σ.2.1 ++ [(S, x, y)]).length := hi
    rw [el] at hi
    show BlF _ _ ((σ.2.1 ++ [(S, x, y)]).getD i dI).1 ∧ _ = ((σ.2.1 ++ [(S, x, y)]).getD i dI).2.1 ∧ _ = ((σ.2.1 ++ [(S, x, y)]).getD i dI).2.2
    rw [getD_app, hn]
    by_cases ci : i < n
    · rw [if_pos ci]
      obtain ⟨d1, d2, d3⟩ := P5 i ci
      exact ⟨d1.same fun q h1 h2 => gk q (by omega) (by omega), (gk _ (by omega) (by omega)).trans d2, (gk _ (by omega) (by omega)).trans d3⟩
    · have : i = n := by omega
      subst this
      rw [if_neg ci, if_pos rfl]
      refine ⟨BlF.tr (f := sA k) (a := b) B fun q hq => ?_, ?_, ?_⟩
      · refine (g (164 + 42 * i + q) (by omega)).trans ?_
        rw [if_neg (by omega), if_neg (by omega), hs, if_pos (by omega)]; congr 1; omega
      · exact (g _ (by omega)).trans (by rw [if_neg (by omega), if_pos rfl])
      · exact (g _ (by omega)).trans (by rw [if_pos rfl])
end RU
