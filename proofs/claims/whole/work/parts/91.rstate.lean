/-! the reference's state, and the states it saves -/
abbrev RI : Type := SH × Int32 × Int32
abbrev RV : Type := List SH × List RI × Int32 × Int32 × Int32
abbrev dI : RI := ([], 0, 0)
abbrev dV : RV := ([], [], 0, 0, 0)
def BlF (f : Nat → Int32) (b : Nat) (S : SH) : Prop := S.length ≤ 3 ∧ f b = Int32.ofNat S.length ∧ ∀ p, p < S.length → f (b + 1 + p) = Int32.ofNat (S.getD p []).length ∧ (1 ≤ (S.getD p []).length ∧ (S.getD p []).length ≤ 6) ∧ ∀ v, v < (S.getD p []).length → (f (b + 4 + 12 * p + 2 * v), f (b + 5 + 12 * p + 2 * v)) = (S.getD p []).getD v (0, 0)
theorem BlF.blk {k : MK} {b : Nat} {S : SH} (h : BlF (sA k) b S) (hb : b + 40 ≤ 580) : Blk k b S := ⟨hb, h⟩
theorem Blk.f {k : MK} {b : Nat} {S : SH} (h : Blk k b S) : BlF (sA k) b S := h.2
theorem BlF.tr {f g : Nat → Int32} {a b : Nat} {S : SH} (h : BlF f a S) (e : ∀ i, i < 40 → g (b + i) = f (a + i)) : BlF g b S := by
  obtain ⟨h1, h2, h3⟩ := h
  refine ⟨h1, by have := e 0 (by omega); rw [Nat.add_zero, Nat.add_zero] at this; rw [this, h2], fun p hp => ?_⟩
  obtain ⟨c1, c2, c3⟩ := h3 p hp
  refine ⟨?_, c2, fun v hv => ?_⟩
  · rw [Nat.add_assoc, e _ (by omega), ← Nat.add_assoc]; exact c1
  · have e1 := e (4 + 12 * p + 2 * v) (by omega)
    have e2 := e (5 + 12 * p + 2 * v) (by omega)
    rw [show b + 4 + 12 * p + 2 * v = b + (4 + 12 * p + 2 * v) by omega, show b + 5 + 12 * p + 2 * v = b + (5 + 12 * p + 2 * v) by omega, e1, e2, ← c3 v hv]
    congr 2 <;> omega
theorem BlF.same {f g : Nat → Int32} {b : Nat} {S : SH} (h : BlF f b S) (e : ∀ i, b ≤ i → i < b + 40 → g i = f i) : BlF g b S := h.tr fun i hi => e _ (by omega) (by omega)
def RsF (f : Nat → Int32) (σ : RV) : Prop := (σ.1.length = 4 ∧ σ.2.1.length ≤ 8) ∧ (f 0 = σ.2.2.1 ∧ f 1 = σ.2.2.2.1 ∧ f 2 = σ.2.2.2.2) ∧ f 3 = Int32.ofNat σ.2.1.length ∧ (∀ j, j < 4 → BlF f (4 + 40 * j) (σ.1.getD j [])) ∧ ∀ i, i < σ.2.1.length → BlF f (164 + 42 * i) (σ.2.1.getD i dI).1 ∧ f (204 + 42 * i) = (σ.2.1.getD i dI).2.1 ∧ f (205 + 42 * i) = (σ.2.1.getD i dI).2.2
theorem RsF.same {f g : Nat → Int32} {σ : RV} (h : RsF f σ) (e : ∀ i, i < 500 → g i = f i) : RsF g σ := by
  obtain ⟨h1, ⟨a1, a2, a3⟩, h3, h4, h5⟩ := h
  refine ⟨h1, ⟨(e _ (by omega)).trans a1, (e _ (by omega)).trans a2, (e _ (by omega)).trans a3⟩, (e _ (by omega)).trans h3, fun j hj => (h4 j hj).same fun i h1 h2 => e i (by omega), fun i hi => ?_⟩
  obtain ⟨b1, b2, b3⟩ := h5 i hi
  exact ⟨b1.same fun q h1 h2 => e q (by omega), (e _ (by omega)).trans b2, (e _ (by omega)).trans b3⟩
theorem RsF.slot {k : MK} {σ : RV} (h : RsF (sA k) σ) {j : Nat} (hj : j < 4) : Blk k (4 + 40 * j) (σ.1.getD j []) := ⟨by omega, h.2.2.2.1 j hj⟩
theorem RsF.item {k : MK} {σ : RV} (h : RsF (sA k) σ) {i : Nat} (hi : i < σ.2.1.length) : Blk k (164 + 42 * i) (σ.2.1.getD i dI).1 := ⟨by have := h.1.2; omega, (h.2.2.2.2 i hi).1⟩
def MsK (k : MK) (σ : RV) (ps : List RV) : Prop := RsF (sA k) σ ∧ k.2.2.2.1 = Int32.ofNat ps.length ∧ ps.length ≤ 6 ∧ ∀ j, j < ps.length → RsF (fun i => k.2.1.getD (500 * j + i) 0) (ps.getD j dV)
def pushR (ps : List RV) (σ : RV) : List RV := if ps.length < 6 then ps ++ [σ] else ps.tail ++ [σ]
section RT
variable {E : EV} {h : AH} {z : Sc} {k : MK} {cs : List Int32} {σ : RV} {ps : List RV}
theorem MoZ.past (H : MoZ h z k) {pt : List Int32} (hp : pt.length = 3000) : MoZ (h.set 315 (.inl (0, pt))) z (k.1, pt, k.2.2) := by
  obtain ⟨h0, h1, h2, h3, h4, h5, h6, h7, h8, h9⟩ := H
  have f : Fr 315 316 h (h.set 315 (.inl (0, pt))) := Fr.set (by omega) (by omega)
  exact ⟨(f.2 _ (by omega)).trans h0, ⟨(f.2 _ (by omega)).trans h1.1, h1.2⟩, ⟨gs h2.1, hp⟩, ⟨(f.2 _ (by omega)).trans h3.1, h3.2⟩, h4.fr f (by omega), h5.fr f (by omega), h6.fr f (by omega), h7.fr f (by omega), h8.fr f (by omega), h9.fr f (by omega)⟩
theorem MoZ.cnt (H : MoZ h z k) (n ty : Int32) : MoZ (h.set 313 (mob n ty z)) z (k.1, k.2.1, k.2.2.1, n, ty) := by
  obtain ⟨h0, h1, h2, h3, h4, h5, h6, h7, h8, h9⟩ := H
  have f : Fr 313 314 h (h.set 313 (mob n ty z)) := fr313
  exact ⟨gs h0, ⟨(f.2 _ (by omega)).trans h1.1, h1.2⟩, ⟨(f.2 _ (by omega)).trans h2.1, h2.2⟩, ⟨(f.2 _ (by omega)).trans h3.1, h3.2⟩, h4.fr f (by omega), h5.fr f (by omega), h6.fr f (by omega), h7.fr f (by omega), h8.fr f (by omega), h9.fr f (by omega)⟩
theorem MoZ.ldp (H : MoZ h z k) {i : Nat} (hi : i < 3000) {K : Int32 → Prop} (c : K (k.2.1.getD i 0)) : aldI h (some 315) 0 (Int32.ofNat i) K :=
  aldI_of H.2.2.1.1 (i32_nn (by omega)) (by rw [i32_n (by omega)]; exact getD_get (by rw [H.2.2.1.2]; exact hi)) c
theorem MoZ.stp (H : MoZ h z k) {i : Nat} (hi : i < 3000) {v : Int32} {K : AH → Prop} (c : K (h.set 315 (.inl (0, k.2.1.set i v)))) : astI h (some 315) 0 (Int32.ofNat i) v K := by
  refine ⟨_, _, rfl, H.2.2.1.1, i32_nn (by omega), by rw [i32_n (by omega), H.2.2.1.2]; exact hi, ?_⟩
  rw [i32_n (by omega)]; exact c
theorem frM {a : Nat} {x : AE} (h1 : 313 ≤ a) (h2 : a < 316) : Fr 313 316 h (h.set a x) := Fr.set (by omega) (by omega)
theorem getD_tail' {l : List RV} {j : Nat} : l.tail.getD j dV = l.getD (j + 1) dV := by
  cases l <;> simp [List.getD_eq_getElem?_getD]
abbrev kPs (k : MK) (pt : List Int32) (n : Int32) : MK := (k.1, pt, k.2.2.1, n, k.2.2.2.2)
theorem m11_note (H : MoZ h z k) (P : MsK k σ ps) : sX11_note E [aP (some 313)] h (kV fun h' => ∃ pt n, MoZ h' z (kPs k pt n) ∧ MsK (kPs k pt n) σ (pushR ps σ) ∧ Fr 313 316 h h') := by
  obtain ⟨P1, P2, P3, P4⟩ := id P
  have lp : k.2.1.length = 3000 := H.2.2.1.2
  refine uX11_note (fun m h' l0 l1 => ∃ j pt, m = 10000 - j ∧ l0 = some 313 ∧ l1 = Int32.ofNat j ∧ j ≤ 2500 ∧ ps.length = 6 ∧ MoZ h' z (k.1, pt, k.2.2) ∧ (∀ i, i < 2500 → pt.getD i 0 = if i < j then k.2.1.getD (i + 500) 0 else k.2.1.getD i 0) ∧ (∀ i, 2500 ≤ i → pt.getD i 0 = k.2.1.getD i 0) ∧ Fr 313 316 h h') (fun m h' l0 l1 => ∃ j pt qs, m = 5000 - j ∧ l0 = some 313 ∧ l1 = Int32.ofNat j ∧ j ≤ 500 ∧ MoZ h' z (kPs k pt (Int32.ofNat qs.length)) ∧ qs.length < 6 ∧ pushR ps σ = qs ++ [σ] ∧ (∀ j, j < qs.length → RsF (fun i => pt.getD (500 * j + i) 0) (qs.getD j dV)) ∧ (∀ i, i < j → pt.getD (500 * qs.length + i) 0 = sA k i) ∧ Fr 313 316 h h') ?_ ?_ ?_
  · unfold PX11_note_0
    refine (rdI_iff H.1).mpr ⟨_, rfl, ?_⟩
    rw [P2]
    refine ⟨fun c => ?_, fun c => ?_⟩
    · have n6 : ps.length ≠ 6 := fun q => c (by rw [q]; rfl)
      refine ⟨_, 0, k.2.1, ps, rfl, rfl, rfl, by omega, ?_, by omega, by unfold pushR; rw [if_pos (by omega)], P4, fun i hi => absurd hi (by omega), Fr.refl⟩
      rw [← P2]; exact H
    · have n6 := i32_inj (n := 6) (by omega) (by omega) c
      exact ⟨_, 0, k.2.1, rfl, rfl, rfl, by omega, n6, H, fun i hi => by rw [if_neg (by omega)], fun _ _ => rfl, Fr.refl⟩
  · rintro m h' l0 l1 ⟨j, pt, rfl, rfl, rfl, hj, n6, H', hp, hq, f⟩
    unfold PX11_note_11
    have lpt : pt.length = 3000 := H'.2.2.1.2
    refine ⟨fun c => ?_, fun c => ?_⟩
    · have c := (i32_le (i := 2500) (by omega) (by omega)).mp c
      have hj : j = 2500 := by omega
      subst hj
      refine (rdI_iff H'.1).mpr ⟨_, rfl, (wr_iff H'.1).mpr ⟨Nat.le_of_ble_eq_true rfl, ?_⟩⟩
      have e5 : k.2.2.2.1 - 1 = Int32.ofNat ps.tail.length := by rw [P2, n6, List.length_tail, n6]; rfl
      refine ⟨_, by omega, 0, pt, ps.tail, rfl, rfl, rfl, by omega, ?_, by rw [List.length_tail]; omega, by unfold pushR; rw [if_neg (by omega)], fun j hj => ?_, fun i hi => absurd hi (by omega), f.trans (frM (by omega) (by omega))⟩
      · rw [← e5]; exact H'.cnt (k.2.2.2.1 - 1) k.2.2.2.2
      · rw [List.length_tail, n6] at hj
        rw [getD_tail']
        refine (P4 (j + 1) (by omega)).same fun i hi => ?_
        rw [hp _ (by omega), if_pos (by omega)]
        congr 1; omega
    · have c := mt (i32_le (i := 2500) (j := j) (by omega) (by omega)).mpr c
      refine (rdP_iff H'.1).mpr ⟨_, rfl, (rdP_iff H'.1).mpr ⟨_, rfl, ?_⟩⟩
      rw [show Int32.ofNat j + 500 = Int32.ofNat (j + 500) by rw [Int32.ofNat_add]; rfl]
      refine H'.ldp (by omega) (H'.stp (by omega) ⟨_, by omega, j + 1, _, rfl, rfl, i32_s _, by omega, n6, H'.past (by rw [List.length_set]; exact lpt), fun i hi => ?_, fun i hi => ?_, f.trans (frM (by omega) (by omega))⟩)
      · show (pt.set j (pt.getD (j + 500) 0)).getD i 0 = _
        rw [getD_set, lpt]
        have e : pt.getD (j + 500) 0 = k.2.1.getD (j + 500) 0 := by
          by_cases c2 : j + 500 < 2500
          · rw [hp _ c2, if_neg (by omega)]
          · exact hq _ (by omega)
        by_cases ci : j = i
        · subst ci; rw [if_pos ⟨rfl, by omega⟩, if_pos (by omega), e]
        · rw [if_neg (fun q => ci q.1), hp i hi]
          by_cases c3 : i < j
          · rw [if_pos c3, if_pos (by omega)]
          · rw [if_neg c3, if_neg (by omega)]
      · show (pt.set j (pt.getD (j + 500) 0)).getD i 0 = _
        rw [getD_set, if_neg (by omega)]; exact hq i hi
  · rintro m h' l0 l1 ⟨j, pt, qs, rfl, rfl, rfl, hj, H', n6, eq, hr, hn, f⟩
    unfold PX11_note_52
    have lpt : pt.length = 3000 := H'.2.2.1.2
    refine ⟨fun c => ?_, fun c => ?_⟩
    · have c := (i32_le (i := 500) (by omega) (by omega)).mp c
      have hj : j = 500 := by omega
      subst hj
      refine (rdI_iff H'.1).mpr ⟨_, rfl, (wr_iff H'.1).mpr ⟨Nat.le_of_ble_eq_true rfl, ?_⟩⟩
      have el : (qs ++ [σ]).length = qs.length + 1 := by rw [List.length_append]; rfl
      have e1 : Int32.ofNat qs.length + 1 = Int32.ofNat (qs.length + 1) := i32_s _
      refine ⟨rfl, pt, Int32.ofNat (qs.length + 1), by rw [← e1]; exact H'.cnt _ _, ?_, f.trans (frM (by omega) (by omega))⟩
      rw [eq]
      refine ⟨P1, by rw [el], by rw [el]; omega, fun j hj => ?_⟩
      rw [el] at hj
      rw [getD_app]
      by_cases cj : j < qs.length
      · rw [if_pos cj]; exact hr j cj
      · have : j = qs.length := by omega
        subst this
        rw [if_neg cj, if_pos rfl]
        exact P1.same fun i hi => hn i hi
    · have c := mt (i32_le (i := 500) (j := j) (by omega) (by omega)).mpr c
      refine (rdP_iff H'.1).mpr ⟨_, rfl, (rdI_iff H'.1).mpr ⟨_, rfl, (rdP_iff H'.1).mpr ⟨_, rfl, H'.ld (by omega) ?_⟩⟩⟩
      have ei : (500 : Int32) * Int32.ofNat qs.length + Int32.ofNat j = Int32.ofNat (500 * qs.length + j) := by rw [Int32.ofNat_add, Int32.ofNat_mul]; rfl
      rw [ei]
      refine H'.stp (by omega) ⟨_, by omega, j + 1, _, qs, rfl, rfl, i32_s _, by omega, H'.past (by rw [List.length_set]; exact lpt), n6, eq, fun q hq => ?_, fun i hi => ?_, f.trans (frM (by omega) (by omega))⟩
      · refine (hr q hq).same fun i hi => ?_
        show (pt.set _ _).getD _ 0 = _
        rw [getD_set, if_neg (by omega)]
      · show (pt.set _ _).getD _ 0 = _
        rw [getD_set, lpt]
        by_cases ci : i = j
        · subst ci; rw [if_pos ⟨rfl, by omega⟩]; rfl
        · rw [if_neg (by omega)]; exact hn i (by omega)
end RT
