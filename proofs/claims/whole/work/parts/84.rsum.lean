/-! points of a shape, of a sum; areas; points in a piece -/
def sumT (A B : List PT) (sg : Int32) : List PT := (pre B.length A.length 0).map fun ve => ((vR A ve.1).1 + sg * (vR B ve.2).1, (vR A ve.1).2 + sg * (vR B ve.2).2)
def arR (P : List PT) : Int32 := (List.range P.length).foldl (fun s v => s + ((vR P v).1 * (vR P (v + 1)).2 - (vR P (v + 1)).1 * (vR P v).2)) 0
def inE (P : List PT) (x y : Int32) (e : Nat) : Bool := decide (¬ ((vR P (e + 1)).1 - (vR P e).1) * (y - (vR P e).2) < ((vR P (e + 1)).2 - (vR P e).2) * (x - (vR P e).1))
def inR (P : List PT) (x y : Int32) : Bool := (List.range P.length).all (inE P x y)
theorem vR_lt {P : List PT} {v : Nat} (h : v < P.length) : vR P v = P.getD v (0, 0) := by unfold vR; rw [Nat.mod_eq_of_lt h]
theorem pre_len {k i j : Nat} : (pre k i j).length = i * k + j := by
  unfold pre
  rw [List.length_append, List.length_map, List.length_range]
  congr 1
  induction i with
  | zero => simp
  | succ i ih => rw [List.range_succ, List.flatMap_append, List.length_append, ih]; simp [Nat.succ_mul]
section RS
variable {E : EV} {h : AH} {z : Sc} {k : MK} {a b : Nat} {S SA SB : SH} {i j : Nat}
theorem MoZ.pt0 (H : MoZ h z k) : PtO h [] := by
  obtain ⟨vx, h1⟩ := H.2.2.2.2.1
  obtain ⟨vy, h2⟩ := H.2.2.2.2.2.1
  exact ⟨vx, vy, h1, h2, by simp, fun j hj => by simp at hj⟩
theorem m11_shapeHull (H : MoZ h z k) (B : Blk k b S) (hne : S.flatten ≠ []) {m : Nat} (hm : HuE S.flatten m) : sX11_laysShapeHull E [aP (some 313), aI (Int32.ofNat b)] h (kV fun h' => (∃ z', MoZ h' z' k ∧ (zT z').2.2.2.1 = Int32.ofNat m) ∧ CoO h' (hrP S.flatten m) ∧ Fr 313 321 h h') := by
  have h3 := B.2.1
  have hp6 : ∀ p, p < S.length → (S.getD p []).length ≤ 6 := fun p hp => (B.2.2.2 p hp).2.1.2
  have fl : ∀ p, p ≤ S.length → (S.take p).flatten.length ≤ 6 * p := fun p => by
    induction p with
    | zero => intro _; simp
    | succ p ih => intro hp; rw [take_fl (by omega)]; have := ih (by omega); have := hp6 p (by omega); omega
  refine uX11_laysShapeHull (fun w h' l0 l1 l2 => ∃ p z', w = (S.length - p) * 100 ∧ p ≤ S.length ∧ l0 = some 313 ∧ l1 = Int32.ofNat b ∧ l2 = Int32.ofNat p ∧ MoZ h' z' k ∧ (zT z').2.2.1 = Int32.ofNat (S.take p).flatten.length ∧ PtO h' (S.take p).flatten ∧ Fr 313 321 h h')
    (fun w h' l0 l1 l2 l3 => ∃ p v z', w = (S.length - p) * 100 - 1 - v ∧ p < S.length ∧ v ≤ (S.getD p []).length ∧ l0 = some 313 ∧ l1 = Int32.ofNat b ∧ l2 = Int32.ofNat p ∧ l3 = Int32.ofNat v ∧ MoZ h' z' k ∧ (zT z').2.2.1 = Int32.ofNat ((S.take p).flatten ++ (S.getD p []).take v).length ∧ PtO h' ((S.take p).flatten ++ (S.getD p []).take v) ∧ Fr 313 321 h h') ?_ ?_ ?_
  · unfold PX11_laysShapeHull_0
    refine (wr_iff H.1).mpr ⟨Nat.le_of_ble_eq_true rfl, _, 0, zPt z 0, rfl, Nat.zero_le _, rfl, rfl, rfl, H.set (zPt z 0), rfl, H.pt0.fr fr313 (by omega), fr313.weak (by omega) (by omega)⟩
  · rintro w h' l0 l1 l2 ⟨p, z', rfl, hp, rfl, rfl, rfl, H', hn, P', f⟩
    unfold PX11_laysShapeHull_7
    refine cvI H'.1 (m11_pieces H' B) ⟨fun c => ?_, fun c => ?_⟩
    · have hpp : p = S.length := by have := (i32_le (by omega) (by omega)).mp c; omega
      subst hpp
      rw [List.take_length] at hn P'
      exact cvVq H'.1 (m11_hull H' P' hn hne hm) fun h4 q4 => ⟨rfl, q4.1, q4.2.1, f.trans q4.2.2⟩
    · have hpp : p < S.length := by have := mt (i32_le (i := S.length) (j := p) (by omega) (by omega)).mpr c; omega
      exact ⟨_, by omega, p, 0, z', rfl, hpp, Nat.zero_le _, rfl, rfl, rfl, rfl, H', by rw [List.take_zero, List.append_nil]; exact hn, by rw [List.take_zero, List.append_nil]; exact P', f⟩
  · rintro w h' l0 l1 l2 l3 ⟨p, v, z', rfl, hp, hv, rfl, rfl, rfl, rfl, H', hn, P', f⟩
    have h6 := hp6 p hp
    have hfl := fl p (by omega)
    unfold PX11_laysShapeHull_18
    refine cvI H'.1 (m11_vertices H' B hp) ⟨fun c => ?_, fun c => ?_⟩
    · have hvv : v = (S.getD p []).length := by have := (i32_le (by omega) (by omega)).mp c; omega
      have e : (S.take p).flatten ++ (S.getD p []).take v = (S.take (p + 1)).flatten := by
        rw [hvv, List.take_length, List.take_add_one, List.getElem?_eq_getElem hp, List.flatten_append, List.getD_eq_getElem?_getD, List.getElem?_eq_getElem hp]; simp
      rw [e] at hn P'
      exact ⟨(S.length - (p + 1)) * 100, by omega, p + 1, z', rfl, hp, rfl, rfl, i32_s p, H', hn, P', f⟩
    · have hvv : v < (S.getD p []).length := by have := mt (i32_le (i := (S.getD p []).length) (j := v) (by omega) (by omega)).mpr c; omega
      have hlen : ((S.take p).flatten ++ (S.getD p []).take v).length < 36 := by rw [List.length_append, List.length_take]; omega
      have e : ((S.take p).flatten ++ (S.getD p []).take v) ++ [vR (S.getD p []) v] = (S.take p).flatten ++ (S.getD p []).take (v + 1) := by
        rw [List.append_assoc, vR_lt hvv]
        congr 1
        have := take_snoc (f := id) (d := ((0, 0) : PT)) hvv
        simpa using this
      refine cvI H'.1 (m11_xOf H' B hp (by omega)) (cvI H'.1 (m11_yOf H' B hp (by omega)) (cvVq H'.1 (m11_point H' P' hn hlen _ _) fun h8 q8 => ?_))
      refine ⟨(S.length - p) * 100 - 1 - (v + 1), by omega, p, v + 1, _, rfl, hp, hvv, rfl, rfl, rfl, i32_s v, q8.1, ?_, ?_, f.trans q8.2.2⟩
      · rw [← e, List.length_append (bs := [vR (S.getD p []) v])]; rfl
      · rw [← e]; exact q8.2.1
theorem m11_sum (H : MoZ h z k) (A : Blk k a SA) (B : Blk k b SB) (hi : i < SA.length) (hj : j < SB.length) (sg : Int32) {m : Nat} (hm : HuE (sumT (SA.getD i []) (SB.getD j []) sg) m) : sX11_laysSum E [aP (some 313), aI sg, aI (Int32.ofNat a), aI (Int32.ofNat i), aI (Int32.ofNat b), aI (Int32.ofNat j)] h (kV fun h' => (∃ z', MoZ h' z' k ∧ (zT z').2.2.2.1 = Int32.ofNat m) ∧ CoO h' (hrP (sumT (SA.getD i []) (SB.getD j []) sg) m) ∧ Fr 313 321 h h') := by
  have lA := (A.2.2.2 i hi).2.1
  have lB := (B.2.2.2 j hj).2.1
  generalize hPA : SA.getD i [] = PA at *
  generalize hPB : SB.getD j [] = PB at *
  let g : Nat × Nat → PT := fun ve => ((vR PA ve.1).1 + sg * (vR PB ve.2).1, (vR PA ve.1).2 + sg * (vR PB ve.2).2)
  have bnd : ∀ v e, v < PA.length → e < PB.length → v * PB.length + e < 36 := fun v e hv he => by
    have : v * PB.length ≤ 5 * PB.length := Nat.mul_le_mul_right _ (by omega)
    omega
  have hne : sumT PA PB sg ≠ [] := by
    intro q
    have : (sumT PA PB sg).length = 0 := by rw [q]; rfl
    unfold sumT at this
    rw [List.length_map, pre_len] at this
    have h1 : PA.length * PB.length = 0 := by omega
    rcases Nat.mul_eq_zero.mp h1 with w | w <;> omega
  refine uX11_laysSum (fun w h' l0 l1 l2 l3 l4 l5 l6 => ∃ v z', w = (PA.length - v) * 100 ∧ v ≤ PA.length ∧ l0 = some 313 ∧ l1 = sg ∧ l2 = Int32.ofNat a ∧ l3 = Int32.ofNat i ∧ l4 = Int32.ofNat b ∧ l5 = Int32.ofNat j ∧ l6 = Int32.ofNat v ∧ MoZ h' z' k ∧ (zT z').2.2.1 = Int32.ofNat ((pre PB.length v 0).map g).length ∧ PtO h' ((pre PB.length v 0).map g) ∧ Fr 313 321 h h')
    (fun w h' l0 l1 l2 l3 l4 l5 l6 l7 => ∃ v e z', w = (PA.length - v) * 100 - 1 - e ∧ v < PA.length ∧ e ≤ PB.length ∧ l0 = some 313 ∧ l1 = sg ∧ l2 = Int32.ofNat a ∧ l3 = Int32.ofNat i ∧ l4 = Int32.ofNat b ∧ l5 = Int32.ofNat j ∧ l6 = Int32.ofNat v ∧ l7 = Int32.ofNat e ∧ MoZ h' z' k ∧ (zT z').2.2.1 = Int32.ofNat ((pre PB.length v e).map g).length ∧ PtO h' ((pre PB.length v e).map g) ∧ Fr 313 321 h h') ?_ ?_ ?_
  · unfold PX11_laysSum_0
    refine (wr_iff H.1).mpr ⟨Nat.le_of_ble_eq_true rfl, _, 0, zPt z 0, rfl, Nat.zero_le _, rfl, rfl, rfl, rfl, rfl, rfl, rfl, H.set (zPt z 0), rfl, H.pt0.fr fr313 (by omega), fr313.weak (by omega) (by omega)⟩
  · rintro w h' l0 l1 l2 l3 l4 l5 l6 ⟨v, z', rfl, hv, rfl, rfl, rfl, rfl, rfl, rfl, rfl, H', hn, P', f⟩
    unfold PX11_laysSum_8
    have VA := m11_vertices (E := E) H' A hi
    rw [hPA] at VA
    refine cvI H'.1 VA ⟨fun c => ?_, fun c => ?_⟩
    · have hvv : v = PA.length := by have := (i32_le (by omega) (by omega)).mp c; omega
      subst hvv
      exact cvVq H'.1 (m11_hull (T := sumT PA PB l1) H' P' hn hne hm) fun h4 q4 => ⟨rfl, q4.1, q4.2.1, f.trans q4.2.2⟩
    · have hvv : v < PA.length := by have := mt (i32_le (i := PA.length) (j := v) (by omega) (by omega)).mpr c; omega
      exact ⟨_, by omega, v, 0, z', rfl, hvv, Nat.zero_le _, rfl, rfl, rfl, rfl, rfl, rfl, rfl, rfl, H', hn, P', f⟩
  · rintro w h' l0 l1 l2 l3 l4 l5 l6 l7 ⟨v, e, z', rfl, hv, he, rfl, rfl, rfl, rfl, rfl, rfl, rfl, rfl, H', hn, P', f⟩
    unfold PX11_laysSum_22
    have VB := m11_vertices (E := E) H' B hj
    rw [hPB] at VB
    refine cvI H'.1 VB ⟨fun c => ?_, fun c => ?_⟩
    · have hee : e = PB.length := by have := (i32_le (by omega) (by omega)).mp c; omega
      rw [hee, pre_row] at hn P'
      exact ⟨(PA.length - (v + 1)) * 100, by omega, v + 1, z', rfl, hv, rfl, rfl, rfl, rfl, rfl, rfl, i32_s v, H', hn, P', f⟩
    · have hee : e < PB.length := by have := mt (i32_le (i := PB.length) (j := e) (by omega) (by omega)).mpr c; omega
      have hlen : ((pre PB.length v e).map g).length < 36 := by
        rw [List.length_map, pre_len]; exact bnd v e hv hee
      have XA := m11_xOf (E := E) H' A hi (v := v) (by omega)
      have YA := m11_yOf (E := E) H' A hi (v := v) (by omega)
      have XB := m11_xOf (E := E) H' B hj (v := e) (by omega)
      have YB := m11_yOf (E := E) H' B hj (v := e) (by omega)
      rw [hPA] at XA YA
      rw [hPB] at XB YB
      refine cvI H'.1 XA (cvI H'.1 XB (cvI H'.1 YA (cvI H'.1 YB (cvVq H'.1 (m11_point H' P' hn hlen _ _) fun h8 q8 => ?_))))
      have eg : (pre PB.length v e).map g ++ [((vR PA v).1 + l1 * (vR PB e).1, (vR PA v).2 + l1 * (vR PB e).2)] = (pre PB.length v (e + 1)).map g := by rw [pre_succ, List.map_append]; rfl
      refine ⟨(PA.length - v) * 100 - 1 - (e + 1), by omega, v, e + 1, _, rfl, hv, hee, rfl, rfl, rfl, rfl, rfl, rfl, rfl, i32_s e, q8.1, ?_, ?_, f.trans q8.2.2⟩
      · rw [← eg, List.length_append]; rfl
      · rw [← eg]; exact q8.2.1
theorem m11_area (H : MoZ h z k) (B : Blk k b S) (hi : i < S.length) : sX11_doubleAreaOf E [aP (some 313), aI (Int32.ofNat b), aI (Int32.ofNat i)] h (kI fun r h' => r = arR (S.getD i []) ∧ h' = h) := by
  have lB := (B.2.2.2 i hi).2.1
  refine uX11_doubleAreaOf (fun m h' l0 l1 l2 l3 l4 => ∃ v, m = (S.getD i []).length - v ∧ v ≤ (S.getD i []).length ∧ h' = h ∧ l0 = some 313 ∧ l1 = Int32.ofNat b ∧ l2 = Int32.ofNat i ∧ l3 = (List.range v).foldl (fun s v => s + ((vR (S.getD i []) v).1 * (vR (S.getD i []) (v + 1)).2 - (vR (S.getD i []) (v + 1)).1 * (vR (S.getD i []) v).2)) 0 ∧ l4 = Int32.ofNat v) ⟨_, 0, rfl, Nat.zero_le _, rfl, rfl, rfl, rfl, rfl, rfl⟩ ?_
  rintro m h' l0 l1 l2 l3 l4 ⟨v, rfl, hv, rfl, rfl, rfl, rfl, rfl, rfl⟩
  unfold PX11_doubleAreaOf_5
  refine cvI H.1 (m11_vertices H B hi) ⟨fun c => ?_, fun c => ?_⟩
  · have hvv : v = (S.getD i []).length := by have := (i32_le (by omega) (by omega)).mp c; omega
    rw [hvv]
    exact ⟨_, rfl, rfl, rfl⟩
  · have hvv : v < (S.getD i []).length := by have := mt (i32_le (i := (S.getD i []).length) (j := v) (by omega) (by omega)).mpr c; omega
    rw [i32_s]
    exact cvI H.1 (m11_xOf H B hi (by omega)) (cvI H.1 (m11_yOf H B hi (by omega)) (cvI H.1 (m11_xOf H B hi (by omega)) (cvI H.1 (m11_yOf H B hi (by omega)) fun v11 e11 => ⟨(S.getD i []).length - (v + 1), by omega, v + 1, rfl, hvv, rfl, rfl, rfl, rfl, by rw [fold_succ, e11], rfl⟩)))
theorem m11_isIn (H : MoZ h z k) (B : Blk k b S) (hi : i < S.length) (x y : Int32) : sX11_isIn E [aP (some 313), aI (Int32.ofNat b), aI (Int32.ofNat i), aI x, aI y] h (kI fun r h' => r = (if inR (S.getD i []) x y = true then 1 else 0) ∧ h' = h) := by
  have lB := (B.2.2.2 i hi).2.1
  refine uX11_isIn (fun m h' l0 l1 l2 l3 l4 l5 l6 => ∃ e, m = (S.getD i []).length - e ∧ e ≤ (S.getD i []).length ∧ h' = h ∧ l0 = some 313 ∧ l1 = Int32.ofNat b ∧ l2 = Int32.ofNat i ∧ l3 = x ∧ l4 = y ∧ l5 = (if (List.range e).all (inE (S.getD i []) x y) = true then 1 else 0) ∧ l6 = Int32.ofNat e) ⟨_, 0, rfl, Nat.zero_le _, rfl, rfl, rfl, rfl, rfl, rfl, rfl, rfl⟩ ?_
  rintro m h' l0 l1 l2 l3 l4 l5 l6 ⟨e, rfl, he, rfl, rfl, rfl, rfl, rfl, rfl, rfl, rfl⟩
  unfold PX11_isIn_6
  have all_s : (List.range (e + 1)).all (inE (S.getD i []) l3 l4) = ((List.range e).all (inE (S.getD i []) l3 l4) && inE (S.getD i []) l3 l4 e) := by rw [List.range_succ, List.all_append]; simp
  refine cvI H.1 (m11_vertices H B hi) ⟨fun c => ⟨?_, _, rfl, ?_, rfl⟩, fun c => ?_⟩
  · split
    · exact Or.inr rfl
    · exact Or.inl rfl
  · have hee : e = (S.getD i []).length := by have := (i32_le (by omega) (by omega)).mp c; omega
    rw [hee]; rfl
  · have hee : e < (S.getD i []).length := by have := mt (i32_le (i := (S.getD i []).length) (j := e) (by omega) (by omega)).mpr c; omega
    rw [i32_s]
    refine cvI H.1 (m11_xOf H B hi (by omega)) (cvI H.1 (m11_xOf H B hi (by omega)) fun v7 e7 => cvI H.1 (m11_yOf H B hi (by omega)) (cvI H.1 (m11_yOf H B hi (by omega)) fun v12 e12 => ⟨fun c2 => ?_, fun c2 => cvI H.1 (m11_yOf H B hi (by omega)) (cvI H.1 (m11_xOf H B hi (by omega)) ⟨fun c3 => ?_, fun c3 => ?_⟩)⟩))
    · unfold PX11_isIn_98
      rw [i32_s]
      refine ⟨(S.getD i []).length - (e + 1), by omega, e + 1, rfl, hee, rfl, rfl, rfl, rfl, rfl, rfl, ?_, rfl⟩
      rw [all_s, if_neg]
      intro w
      rw [Bool.and_eq_true] at w
      exact r00 rfl c2 w.1
    · unfold PX11_isIn_98
      rw [i32_s]
      refine ⟨(S.getD i []).length - (e + 1), by omega, e + 1, rfl, hee, rfl, rfl, rfl, rfl, rfl, rfl, ?_, rfl⟩
      rw [all_s, if_neg]
      intro w
      rw [Bool.and_eq_true] at w
      rw [e7, e12] at c3
      exact of_decide_eq_true w.2 c3
    · refine ⟨(S.getD i []).length - (e + 1), by omega, e + 1, rfl, hee, rfl, rfl, rfl, rfl, rfl, rfl, ?_, rfl⟩
      rw [all_s, if_pos]
      rw [Bool.and_eq_true]
      rw [e7, e12] at c3
      exact ⟨r01 rfl c2, decide_eq_true c3⟩
end RS
