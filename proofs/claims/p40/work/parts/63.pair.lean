/-! how a fixed shape and a moved one lie -/
def pre (k i j : Nat) : List (Nat × Nat) := (List.range i).flatMap (fun a => (List.range k).map fun b => (a, b)) ++ (List.range j).map fun b => (i, b)
theorem pre_succ {k i j : Nat} : pre k i (j + 1) = pre k i j ++ [(i, j)] := by
  unfold pre; rw [List.range_succ, List.map_append, List.append_assoc]; rfl
theorem pre_row {k i : Nat} : pre k i k = pre k (i + 1) 0 := by
  unfold pre; rw [List.range_succ, List.flatMap_append]; simp
theorem pre_fold {β : Type} {f : β → Nat × Nat → β} {b : β} {k i j : Nat} : (pre k i (j + 1)).foldl f b = f ((pre k i j).foldl f b) (i, j) := by rw [pre_succ, List.foldl_append]; rfl
abbrev SH : Type := List (List PT)
def Pok (S : SH) : Prop := ∀ i, i < S.length → 1 ≤ (S.getD i []).length ∧ (S.getD i []).length ≤ 6
def nfP (S S2 : SH) (ij : Nat × Nat) : List PT := sumP (S.getD ij.1 []) ((S2.getD ij.2 []).map (trP 2))
def PairO (h : AH) (a : Nat) (C : List PT) (f : FQ) : Prop := h[a]? = some (.inr (3, [aP (some (a + 1)), aP (some (a + 4)), aP (some (a + 7)), aP (some (a + 10))])) ∧ (∃ A B, PolyAt h (a + 1) A ∧ PolyAt h (a + 4) B) ∧ PolyAt h (a + 7) C ∧ FrAt h (a + 10) f
def PairAt (h : AH) (a : Nat) : Prop := ∃ C f, PairO h a C f
theorem PairO.fr {h h' : AH} {a lo hi : Nat} {C : List PT} {f : FQ} (H : PairO h a C f) (r : Fr lo hi h h') (d : a + 11 ≤ lo ∨ hi ≤ a) : PairO h' a C f := by
  obtain ⟨h1, ⟨A, B, hA, hB⟩, h2, h3⟩ := H
  exact ⟨(r.2 _ (by omega)).trans h1, ⟨A, B, hA.fr r (by omega), hB.fr r (by omega)⟩, h2.fr r (by omega), h3.fr r (by omega)⟩
theorem PairAt.fr {h h' : AH} {a lo hi : Nat} (H : PairAt h a) (r : Fr lo hi h h') (d : a + 11 ≤ lo ∨ hi ≤ a) : PairAt h' a := by
  obtain ⟨C, f, H⟩ := H
  exact ⟨C, f, H.fr r d⟩
def mxI (m v : Int32) : Int32 := if m < v then v else m
def relP (S S2 : SH) (x y : Int32) : Int32 := (pre S2.length S.length 0).foldl (fun m ij => mxI m (locP (nfP S S2 ij) x y)) 0
def gapP (S S2 : SH) (x y : Int32) : FQ := (pre S2.length S.length 0).foldl (fun f ij => gapV (nfP S S2 ij) x y f) (1, 0)
def stpP (S S2 : SH) (x y dx dy : Int32) : FQ := (pre S2.length S.length 0).foldl (fun f ij => lowO f (entP (nfP S S2 ij) x y dx dy)) (1, 0)
def stbP (S S2 : SH) (x y dx dy : Int32) : Bool := (pre S2.length S.length 0).any fun ij => (entP (nfP S S2 ij) x y dx dy).isSome
theorem sumP_ne {A B : List PT} (hA : A ≠ []) : sumP A B ≠ [] := by
  have : 0 < A.length := List.length_pos_iff.mpr hA
  unfold sumP
  obtain ⟨t, ht⟩ : ∃ t, A.length + B.length = t + 1 := ⟨A.length + B.length - 1, by omega⟩
  rw [ht]; unfold sumGo
  rw [if_pos (Or.inl this)]; simp
section PA
variable {E : EV} {h : AH} {a p q : Nat} {S S2 : SH} {C : List PT} {f : FQ}
theorem nf_ne (hS : Pok S) {i j : Nat} (hi : i < S.length) : nfP S S2 (i, j) ≠ [] := sumP_ne fun c => by
  have := (hS i hi).1
  dsimp only at c
  rw [c] at this; simp at this
theorem s3_addUp (H : PairO h a C f) (G : ShAt h p S) (G2 : ShAt h q S2) (hS : Pok S) (hS2 : Pok S2) (dp : p + 4 ≤ a ∨ a + 11 ≤ p) (dq : q + 4 ≤ a ∨ a + 11 ≤ q) {i j : Nat} (hi : i < S.length) (hj : j < S2.length) (t : Int32) : sX3_addUp E [aP (some a), aP (some p), aI (Int32.ofNat i), aP (some q), aI (Int32.ofNat j), aI t] h (kV fun h' => PairO h' a (sumP ((S.getD i []).map (trP 0)) ((S2.getD j []).map (trP t))) f ∧ Fr a (a + 11) h h') := by
  obtain ⟨h1, ⟨A, B, hA, hB⟩, h2, h3⟩ := H
  refine eX3_addUp ?_
  unfold PX3_addUp_0
  obtain ⟨_, g1⟩ := G.ad
  refine (rdP_iff h1).mpr ⟨_, rfl, cvVq g1 (s6_copyPiece G hA (by omega) hi 0) fun k1 q1 => ?_⟩
  have e1 := (q1.2.2 a (by omega)).trans h1
  have G2' := G2.fr q1.2 (by omega)
  obtain ⟨_, g2⟩ := G2'.ad
  refine (rdP_iff e1).mpr ⟨_, rfl, cvVq g2 (s6_copyPiece G2' (hB.fr q1.2 (by omega)) (by omega) hj t) fun k2 q2 => ?_⟩
  have e2 := (q2.2.2 a (by omega)).trans e1
  have A2 := q1.1.fr q2.2 (by omega)
  have C2 := (h2.fr q1.2 (by omega)).fr q2.2 (by omega)
  obtain ⟨_, g3⟩ := C2.ad
  refine (rdP_iff e2).mpr ⟨_, rfl, (rdP_iff e2).mpr ⟨_, rfl, (rdP_iff e2).mpr ⟨_, rfl, cvVq g3 (s5_setSum C2 A2 q2.1 ?_ ?_ ?_ (by omega) (by omega)) fun k3 q3 => ?_⟩⟩⟩
  · intro c
    have := (hS i hi).1
    rw [List.map_eq_nil_iff] at c
    rw [c] at this; simp at this
  · intro c
    have := (hS2 j hj).1
    rw [List.map_eq_nil_iff] at c
    rw [c] at this; simp at this
  · have := (hS i hi).2
    have := (hS2 j hj).2
    rw [List.length_map, List.length_map]; omega
  · exact ⟨rfl, ⟨(q3.2.2 a (by omega)).trans e2, ⟨_, _, A2.fr q3.2 (by omega), q2.1.fr q3.2 (by omega)⟩, q3.1, ((h3.fr q1.2 (by omega)).fr q2.2 (by omega)).fr q3.2 (by omega)⟩, ((q1.2.weak (by omega) (by omega)).trans (q2.2.weak (by omega) (by omega))).trans (q3.2.weak (by omega) (by omega))⟩
theorem tr0 {P : List PT} : P.map (trP 0) = P := by
  have : (trP 0 : PT → PT) = id := by
    funext v
    unfold trP trX
    rw [if_pos (by decide), if_pos (by decide)]; rfl
  rw [this, List.map_id]
theorem t3_addUp (H : PairO h a C f) (G : ShAt h p S) (G2 : ShAt h q S2) (hS : Pok S) (hS2 : Pok S2) (dp : p + 4 ≤ a ∨ a + 11 ≤ p) (dq : q + 4 ≤ a ∨ a + 11 ≤ q) {i j : Nat} (hi : i < S.length) (hj : j < S2.length) : sX3_addUp E [aP (some a), aP (some p), aI (Int32.ofNat i), aP (some q), aI (Int32.ofNat j), aI 2] h (kV fun h' => PairO h' a (nfP S S2 (i, j)) f ∧ Fr a (a + 11) h h') := by
  have := s3_addUp (E := E) H G G2 hS hS2 dp dq hi hj 2
  rw [tr0] at this; exact this
theorem shl {h : AH} {p : Nat} {S : SH} (G : ShAt h p S) : ∃ fs, h[p]? = some (.inr (6, fs)) ∧ fs[3]? = some (aI (Int32.ofNat S.length)) ∧ S.length ≤ 3 := by
  obtain ⟨_, _, _, _, _, _, _, h1, -, -, -, h5, -⟩ := G
  exact ⟨_, h1, rfl, h5⟩
theorem s3_relation (H : PairAt h a) (G : ShAt h p S) (G2 : ShAt h q S2) (hS : Pok S) (hS2 : Pok S2) (dp : p + 4 ≤ a ∨ a + 11 ≤ p) (dq : q + 4 ≤ a ∨ a + 11 ≤ q) (x y : Int32) : sX3_relation E [aP (some a), aP (some p), aP (some q), aI x, aI y] h (kI fun r h' => r = relP S S2 x y ∧ PairAt h' a ∧ Fr a (a + 11) h h') := by
  refine uX3_relation (fun m h' l0 l1 l2 l3 l4 l5 l6 => ∃ i, m = (S.length - i) * 10 ∧ i ≤ S.length ∧ l0 = some a ∧ l1 = some p ∧ l2 = some q ∧ l3 = x ∧ l4 = y ∧ l6 = Int32.ofNat i ∧ l5 = (pre S2.length i 0).foldl (fun m ij => mxI m (locP (nfP S S2 ij) x y)) 0 ∧ PairAt h' a ∧ Fr a (a + 11) h h')
    (fun m h' l0 l1 l2 l3 l4 l5 l6 l7 => ∃ i j, m = (S.length - i) * 10 - 1 - j ∧ i < S.length ∧ j ≤ S2.length ∧ l0 = some a ∧ l1 = some p ∧ l2 = some q ∧ l3 = x ∧ l4 = y ∧ l6 = Int32.ofNat i ∧ l7 = Int32.ofNat j ∧ l5 = (pre S2.length i j).foldl (fun m ij => mxI m (locP (nfP S S2 ij) x y)) 0 ∧ PairAt h' a ∧ Fr a (a + 11) h h') ?_ ?_ ?_
  · exact ⟨_, 0, rfl, Nat.zero_le _, rfl, rfl, rfl, rfl, rfl, rfl, rfl, H, Fr.refl⟩
  · rintro m h' l0 l1 l2 l3 l4 l5 l6 ⟨i, rfl, hi, rfl, rfl, rfl, rfl, rfl, rfl, rfl, H', f⟩
    obtain ⟨fs, g1, gf, g3⟩ := shl (G.fr f (by omega))
    unfold PX3_relation_6
    refine (rdI_iff g1).mpr ⟨_, gf, fun c => ?_, fun c => ?_⟩
    · have hii : i = S.length := by have := (i32_le (by omega) (by omega)).mp c; omega
      subst hii
      exact ⟨_, rfl, rfl, H', f⟩
    · have hii : i < S.length := by have := mt (i32_le (i := S.length) (j := i) (by omega) (by omega)).mpr c; omega
      exact ⟨_, by omega, i, 0, rfl, hii, Nat.zero_le _, rfl, rfl, rfl, rfl, rfl, rfl, rfl, rfl, H', f⟩
  · rintro m h' l0 l1 l2 l3 l4 l5 l6 l7 ⟨i, j, rfl, hi, hj, rfl, rfl, rfl, rfl, rfl, rfl, rfl, rfl, ⟨C, F, H'⟩, f⟩
    have G' := G.fr f (by omega)
    have G2' := G2.fr f (by omega)
    obtain ⟨fs, g1, gf, g3⟩ := shl G2'
    obtain ⟨_, _, _, g4⟩ := shl G'
    unfold PX3_relation_18
    refine (rdI_iff g1).mpr ⟨_, gf, fun c => ?_, fun c => ?_⟩
    · have hjj : j = S2.length := by have := (i32_le (by omega) (by omega)).mp c; omega
      subst hjj
      exact ⟨(S.length - (i + 1)) * 10, by omega, i + 1, rfl, hi, rfl, rfl, rfl, rfl, rfl, i32_s i, by rw [pre_row], ⟨C, F, H'⟩, f⟩
    · have hjj : j < S2.length := by have := mt (i32_le (i := S2.length) (j := j) (by omega) (by omega)).mpr c; omega
      refine cvVq H'.1 (t3_addUp H' G' G2' hS hS2 (by omega) (by omega) hi hjj) fun k1 q1 => ?_
      obtain ⟨_, g5⟩ := q1.1.2.2.1.ad
      refine (rdP_iff q1.1.1).mpr ⟨_, rfl, cvI g5 (s5_locate q1.1.2.2.1 (nf_ne hS hi) l3 l4) fun v7 e7 => ?_⟩
      exact ⟨(S.length - i) * 10 - 1 - (j + 1), by omega, i, j + 1, rfl, hi, hjj, rfl, rfl, rfl, rfl, rfl, rfl, i32_s j, by rw [pre_fold, e7]; rfl, ⟨_, _, q1.1⟩, f.trans q1.2⟩
theorem s3_gap (H : PairAt h a) (G : ShAt h p S) (G2 : ShAt h q S2) (hS : Pok S) (hS2 : Pok S2) (dp : p + 4 ≤ a ∨ a + 11 ≤ p) (dq : q + 4 ≤ a ∨ a + 11 ≤ q) (x y : Int32) : sX3_measureGap E [aP (some a), aP (some p), aP (some q), aI x, aI y] h (kV fun h' => (∃ C, PairO h' a C (gapP S S2 x y)) ∧ Fr a (a + 11) h h') := by
  refine uX3_measureGap (fun m h' l0 l1 l2 l3 l4 l5 => ∃ i, m = (S.length - i) * 10 ∧ i ≤ S.length ∧ l0 = some a ∧ l1 = some p ∧ l2 = some q ∧ l3 = x ∧ l4 = y ∧ l5 = Int32.ofNat i ∧ (∃ C, PairO h' a C ((pre S2.length i 0).foldl (fun f ij => gapV (nfP S S2 ij) x y f) (1, 0))) ∧ Fr a (a + 11) h h')
    (fun m h' l0 l1 l2 l3 l4 l5 l6 => ∃ i j, m = (S.length - i) * 10 - 1 - j ∧ i < S.length ∧ j ≤ S2.length ∧ l0 = some a ∧ l1 = some p ∧ l2 = some q ∧ l3 = x ∧ l4 = y ∧ l5 = Int32.ofNat i ∧ l6 = Int32.ofNat j ∧ (∃ C, PairO h' a C ((pre S2.length i j).foldl (fun f ij => gapV (nfP S S2 ij) x y f) (1, 0))) ∧ Fr a (a + 11) h h') ?_ ?_ ?_
  · obtain ⟨C, F, h1, h2, h3, h4⟩ := H
    unfold PX3_measureGap_0
    refine (rdP_iff h1).mpr ⟨_, rfl, cvVq h4 (s0_setInfinite h4) fun k1 q1 => ?_⟩
    obtain ⟨A, B, hA, hB⟩ := h2
    exact ⟨_, 0, rfl, Nat.zero_le _, rfl, rfl, rfl, rfl, rfl, rfl, ⟨C, (q1.2.2 a (by omega)).trans h1, ⟨A, B, hA.fr q1.2 (by omega), hB.fr q1.2 (by omega)⟩, h3.fr q1.2 (by omega), q1.1⟩, q1.2.weak (by omega) (by omega)⟩
  · rintro m h' l0 l1 l2 l3 l4 l5 ⟨i, rfl, hi, rfl, rfl, rfl, rfl, rfl, rfl, H', f⟩
    obtain ⟨fs, g1, gf, g3⟩ := shl (G.fr f (by omega))
    unfold PX3_measureGap_10
    refine (rdI_iff g1).mpr ⟨_, gf, fun c => ?_, fun c => ?_⟩
    · have hii : i = S.length := by have := (i32_le (by omega) (by omega)).mp c; omega
      subst hii
      exact ⟨rfl, H', f⟩
    · have hii : i < S.length := by have := mt (i32_le (i := S.length) (j := i) (by omega) (by omega)).mpr c; omega
      exact ⟨_, by omega, i, 0, rfl, hii, Nat.zero_le _, rfl, rfl, rfl, rfl, rfl, rfl, rfl, H', f⟩
  · rintro m h' l0 l1 l2 l3 l4 l5 l6 ⟨i, j, rfl, hi, hj, rfl, rfl, rfl, rfl, rfl, rfl, rfl, ⟨C, H'⟩, f⟩
    have G' := G.fr f (by omega)
    have G2' := G2.fr f (by omega)
    obtain ⟨fs, g1, gf, g3⟩ := shl G2'
    obtain ⟨_, _, _, g4⟩ := shl G'
    unfold PX3_measureGap_22
    refine (rdI_iff g1).mpr ⟨_, gf, fun c => ?_, fun c => ?_⟩
    · have hjj : j = S2.length := by have := (i32_le (by omega) (by omega)).mp c; omega
      subst hjj
      exact ⟨(S.length - (i + 1)) * 10, by omega, i + 1, rfl, hi, rfl, rfl, rfl, rfl, rfl, i32_s i, by rw [← pre_row]; exact ⟨C, H'⟩, f⟩
    · have hjj : j < S2.length := by have := mt (i32_le (i := S2.length) (j := j) (by omega) (by omega)).mpr c; omega
      refine cvVq H'.1 (t3_addUp H' G' G2' hS hS2 (by omega) (by omega) hi hjj) fun k1 q1 => ?_
      obtain ⟨k1a, ⟨A, B, hA, hB⟩, hC, hF⟩ := q1.1
      obtain ⟨_, g5⟩ := hC.ad
      refine (rdP_iff k1a).mpr ⟨_, rfl, (rdP_iff k1a).mpr ⟨_, rfl, cvVq g5 (s5_gap hC (nf_ne hS hi) hF (by omega) l3 l4) fun k2 q2 => ?_⟩⟩
      exact ⟨(S.length - i) * 10 - 1 - (j + 1), by omega, i, j + 1, rfl, hi, hjj, rfl, rfl, rfl, rfl, rfl, rfl, i32_s j, ⟨_, (q2.2.2 a (by omega)).trans k1a, ⟨A, B, hA.fr q2.2 (by omega), hB.fr q2.2 (by omega)⟩, hC.fr q2.2 (by omega), by rw [pre_fold]; exact q2.1⟩, (f.trans q1.2).trans (q2.2.weak (by omega) (by omega))⟩
theorem s3_stopped (H : PairAt h a) (G : ShAt h p S) (G2 : ShAt h q S2) (hS : Pok S) (hS2 : Pok S2) (dp : p + 4 ≤ a ∨ a + 11 ≤ p) (dq : q + 4 ≤ a ∨ a + 11 ≤ q) (x y dx dy : Int32) : sX3_isStopped E [aP (some a), aP (some p), aP (some q), aI x, aI y, aI dx, aI dy] h (kI fun r h' => r = (if stbP S S2 x y dx dy = true then 1 else 0) ∧ (∃ C, PairO h' a C (stpP S S2 x y dx dy)) ∧ Fr a (a + 11) h h') := by
  refine uX3_isStopped (fun m h' l0 l1 l2 l3 l4 l5 l6 l7 l8 => ∃ i, m = (S.length - i) * 10 ∧ i ≤ S.length ∧ l0 = some a ∧ l1 = some p ∧ l2 = some q ∧ l3 = x ∧ l4 = y ∧ l5 = dx ∧ l6 = dy ∧ l8 = Int32.ofNat i ∧ l7 = (if (pre S2.length i 0).any (fun ij => (entP (nfP S S2 ij) x y dx dy).isSome) = true then 1 else 0) ∧ (∃ C, PairO h' a C ((pre S2.length i 0).foldl (fun f ij => lowO f (entP (nfP S S2 ij) x y dx dy)) (1, 0))) ∧ Fr a (a + 11) h h')
    (fun m h' l0 l1 l2 l3 l4 l5 l6 l7 l8 l9 => ∃ i j, m = (S.length - i) * 10 - 1 - j ∧ i < S.length ∧ j ≤ S2.length ∧ l0 = some a ∧ l1 = some p ∧ l2 = some q ∧ l3 = x ∧ l4 = y ∧ l5 = dx ∧ l6 = dy ∧ l8 = Int32.ofNat i ∧ l9 = Int32.ofNat j ∧ l7 = (if (pre S2.length i j).any (fun ij => (entP (nfP S S2 ij) x y dx dy).isSome) = true then 1 else 0) ∧ (∃ C, PairO h' a C ((pre S2.length i j).foldl (fun f ij => lowO f (entP (nfP S S2 ij) x y dx dy)) (1, 0))) ∧ Fr a (a + 11) h h') ?_ ?_ ?_
  · obtain ⟨C, F, h1, h2, h3, h4⟩ := H
    unfold PX3_isStopped_0
    refine (rdP_iff h1).mpr ⟨_, rfl, cvVq h4 (s0_setInfinite h4) fun k1 q1 => ?_⟩
    obtain ⟨A, B, hA, hB⟩ := h2
    exact ⟨_, 0, rfl, Nat.zero_le _, rfl, rfl, rfl, rfl, rfl, rfl, rfl, rfl, rfl, ⟨C, (q1.2.2 a (by omega)).trans h1, ⟨A, B, hA.fr q1.2 (by omega), hB.fr q1.2 (by omega)⟩, h3.fr q1.2 (by omega), q1.1⟩, q1.2.weak (by omega) (by omega)⟩
  · rintro m h' l0 l1 l2 l3 l4 l5 l6 l7 l8 ⟨i, rfl, hi, rfl, rfl, rfl, rfl, rfl, rfl, rfl, rfl, rfl, H', f⟩
    obtain ⟨fs, g1, gf, g3⟩ := shl (G.fr f (by omega))
    unfold PX3_isStopped_13
    refine (rdI_iff g1).mpr ⟨_, gf, fun c => ⟨?_, ?_⟩, fun c => ?_⟩
    · split
      · exact Or.inr rfl
      · exact Or.inl rfl
    · have hii : i = S.length := by have := (i32_le (by omega) (by omega)).mp c; omega
      subst hii
      exact ⟨_, rfl, rfl, H', f⟩
    · have hii : i < S.length := by have := mt (i32_le (i := S.length) (j := i) (by omega) (by omega)).mpr c; omega
      exact ⟨_, by omega, i, 0, rfl, hii, Nat.zero_le _, rfl, rfl, rfl, rfl, rfl, rfl, rfl, rfl, rfl, rfl, H', f⟩
  · rintro m h' l0 l1 l2 l3 l4 l5 l6 l7 l8 l9 ⟨i, j, rfl, hi, hj, rfl, rfl, rfl, rfl, rfl, rfl, rfl, rfl, rfl, rfl, ⟨C, H'⟩, f⟩
    have G' := G.fr f (by omega)
    have G2' := G2.fr f (by omega)
    obtain ⟨fs, g1, gf, g3⟩ := shl G2'
    obtain ⟨_, _, _, g4⟩ := shl G'
    unfold PX3_isStopped_25
    refine (rdI_iff g1).mpr ⟨_, gf, fun c => ?_, fun c => ?_⟩
    · have hjj : j = S2.length := by have := (i32_le (by omega) (by omega)).mp c; omega
      subst hjj
      exact ⟨(S.length - (i + 1)) * 10, by omega, i + 1, rfl, hi, rfl, rfl, rfl, rfl, rfl, rfl, rfl, i32_s i, by rw [pre_row], by rw [← pre_row]; exact ⟨C, H'⟩, f⟩
    · have hjj : j < S2.length := by have := mt (i32_le (i := S2.length) (j := j) (by omega) (by omega)).mpr c; omega
      refine cvVq H'.1 (t3_addUp H' G' G2' hS hS2 (by omega) (by omega) hi hjj) fun k1 q1 => ?_
      obtain ⟨k1a, ⟨A, B, hA, hB⟩, hC, hF⟩ := q1.1
      obtain ⟨_, g5⟩ := hC.ad
      refine (rdP_iff k1a).mpr ⟨_, rfl, (rdP_iff k1a).mpr ⟨_, rfl, cvIq g5 (s5_entry hC (nf_ne hS hi) hF (by omega) l3 l4 l5 l6) fun r k2 q2 => ⟨fun c => ?_, fun c => ?_⟩⟩⟩
      · have e : (entP (nfP S S2 (i, j)) l3 l4 l5 l6).isSome = false := by
          cases he : (entP (nfP S S2 (i, j)) l3 l4 l5 l6).isSome with
          | false => rfl
          | true => have q := q2.1; rw [he, c] at q; exact absurd q (by decide)
        exact ⟨(S.length - i) * 10 - 1 - (j + 1), by omega, i, j + 1, rfl, hi, hjj, rfl, rfl, rfl, rfl, rfl, rfl, rfl, rfl, i32_s j, by rw [pre_succ, List.any_append, List.any_cons, List.any_nil, e, Bool.or_false, Bool.or_false], ⟨_, (q2.2.2.2 a (by omega)).trans k1a, ⟨A, B, hA.fr q2.2.2 (by omega), hB.fr q2.2.2 (by omega)⟩, hC.fr q2.2.2 (by omega), by rw [pre_fold]; exact q2.2.1⟩, (f.trans q1.2).trans (q2.2.2.weak (by omega) (by omega))⟩
      · have e : (entP (nfP S S2 (i, j)) l3 l4 l5 l6).isSome = true := by
          cases he : (entP (nfP S S2 (i, j)) l3 l4 l5 l6).isSome with
          | true => rfl
          | false => have q := q2.1; rw [he] at q; exact absurd (q.trans (by decide)) c
        exact ⟨(S.length - i) * 10 - 1 - (j + 1), by omega, i, j + 1, rfl, hi, hjj, rfl, rfl, rfl, rfl, rfl, rfl, rfl, rfl, i32_s j, by rw [pre_succ, List.any_append, List.any_cons, List.any_nil, e, Bool.true_or, Bool.or_true]; rfl, ⟨_, (q2.2.2.2 a (by omega)).trans k1a, ⟨A, B, hA.fr q2.2.2 (by omega), hB.fr q2.2.2 (by omega)⟩, hC.fr q2.2.2 (by omega), by rw [pre_fold]; exact q2.2.1⟩, (f.trans q1.2).trans (q2.2.2.weak (by omega) (by omega))⟩
end PA
