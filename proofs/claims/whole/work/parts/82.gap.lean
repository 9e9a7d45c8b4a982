/-! gaps and sliding of the reference -/
def nearF (t b : Int64) (f : FQ) : FQ := if f.2 = 0 ∨ t * f.2 < f.1 * b then (t, b) else f
def nsQ (f : FQ) (dx dy px py : Int64) : FQ := if 0 < px * dx + py * dy ∧ px * dx + py * dy < dx * dx + dy * dy then nearF ((px * dy - py * dx) * (px * dy - py * dx)) (dx * dx + dy * dy) f else nearF (px * px + py * py) 1 f
def nsStep (A B : List PT) (x y : Int32) (f : FQ) (ve : Nat × Nat) : FQ := nsQ f ((vR B (ve.2 + 1)).1 - (vR B ve.2).1).toInt64 ((vR B (ve.2 + 1)).2 - (vR B ve.2).2).toInt64 ((vR A ve.1).1 - (vR B ve.2).1 - x).toInt64 ((vR A ve.1).2 - (vR B ve.2).2 - y).toInt64
def nsP (A B : List PT) (x y : Int32) (f : FQ) : FQ := (pre B.length A.length 0).foldl (nsStep A B x y) f
def lgStep (SA SB : SH) (x y : Int32) (f : FQ) (ij : Nat × Nat) : FQ := nsP (SB.getD ij.2 []) (SA.getD ij.1 []) (-x) (-y) (nsP (SA.getD ij.1 []) (SB.getD ij.2 []) x y f)
def lgP (SA SB : SH) (x y : Int32) : FQ := if anyP SA SB x y 0 1 = true then (0, 1) else (pre SB.length SA.length 0).foldl (lgStep SA SB x y) (0, 0)
abbrev E4 : Type := FQ × FQ
def mtUp (e b : FQ) (lf sp : Int64) : E4 := (if 0 < sp ∧ lf * e.2 < e.1 * sp then (lf, sp) else e, if sp < 0 ∧ b.1 * -sp < -lf * b.2 then (-lf, -sp) else b)
def mtL (A B : List PT) (x y : Int32) (q : Nat) : Int64 := (rchP A B (nrmN A B q) 0 - (nrmN A B q).1 * x - (nrmN A B q).2 * y).toInt64
def mtS (A B : List PT) (dx dy : Int32) (q : Nat) : Int64 := ((nrmN A B q).1 * dx + (nrmN A B q).2 * dy).toInt64
def mtGo (A B : List PT) (x y dx dy : Int32) : Nat → Nat → FQ → FQ → Bool × FQ
  | 0, _, e, b => (decide (0 < e.1 ∧ b.1 * e.2 < e.1 * b.2), b)
  | t + 1, q, e, b => if mtS A B dx dy q = 0 ∧ ¬ 0 < mtL A B x y q then (false, b) else mtGo A B x y dx dy t (q + 1) (mtUp e b (mtL A B x y q) (mtS A B dx dy q)).1 (mtUp e b (mtL A B x y q) (mtS A B dx dy q)).2
theorem mtGo_succ {A B : List PT} {x y dx dy : Int32} {t q : Nat} {e b : FQ} : mtGo A B x y dx dy (t + 1) q e b = if mtS A B dx dy q = 0 ∧ ¬ 0 < mtL A B x y q then (false, b) else mtGo A B x y dx dy t (q + 1) (mtUp e b (mtL A B x y q) (mtS A B dx dy q)).1 (mtUp e b (mtL A B x y q) (mtS A B dx dy q)).2 := rfl
def mtP (A B : List PT) (x y dx dy : Int32) : Bool × FQ := mtGo A B x y dx dy (4 + A.length + B.length) 0 (100000, 1) (-100000, 1)
def stStep (SA SB : SH) (x y dx dy : Int32) (s : FQ) (ij : Nat × Nat) : FQ := if (mtP (SA.getD ij.1 []) (SB.getD ij.2 []) x y dx dy).1 = true ∧ (s.2 = 0 ∨ (mtP (SA.getD ij.1 []) (SB.getD ij.2 []) x y dx dy).2.1 * s.2 < s.1 * (mtP (SA.getD ij.1 []) (SB.getD ij.2 []) x y dx dy).2.2) then (mtP (SA.getD ij.1 []) (SB.getD ij.2 []) x y dx dy).2 else s
def stP (SA SB : SH) (x y dx dy : Int32) (s1 : Int64) : FQ := (pre SB.length SA.length 0).foldl (stStep SA SB x y dx dy) (s1, 0)
theorem i64_n {n : Nat} (h : n < 4611686018427387904) : (Int64.ofNat n).toInt = n := by
  rw [Int64.toInt_ofNat']; simp only [Int.bmod, Int64.size]; omega
theorem i64_rem {v n : Nat} (hv : v < 4611686018427387904) (hn : n < 4611686018427387904) : Int64.ofNat v - Int64.ofNat v / Int64.ofNat n * Int64.ofNat n = Int64.ofNat (v % n) := by
  have e : Int64.ofNat v / Int64.ofNat n = Int64.ofNat (v / n) := by
    have hd : v / n ≤ v := Nat.div_le_self v n
    rw [← Int64.toInt_inj, Int64.toInt_div, i64_n hv, i64_n hn, i64_n (by omega), ← Int.ofNat_tdiv]
    have := i64_n (n := v / n) (by omega)
    rw [Int64.toInt_ofNat'] at this; exact this
  rw [e, ← Int64.ofNat_mul, ← Int64.ofNat_sub _ _ (Nat.div_mul_le_self v n)]
  congr 1
  have := Nat.div_add_mod v n
  rw [Nat.mul_comm] at this; omega
theorem i64_inj {m n : Nat} (hm : m < 4611686018427387904) (hn : n < 4611686018427387904) (q : Int64.ofNat m = Int64.ofNat n) : m = n := by
  have := congrArg Int64.toInt q
  rw [i64_n hm, i64_n hn] at this; omega
section GA
variable {E : EV} {h : AH} {z : Sc} {k : MK} {a b : Nat} {SA SB : SH} {i j : Nat}
theorem m11_nears (H : MoZ h z k) (t u : Int64) : sX11_nears E [aP (some 313), aJ t, aJ u] h (kV fun h' => MoZ h' (zG z (nearF t u (z.2.2.1, z.2.2.2.1)).1 (nearF t u (z.2.2.1, z.2.2.2.1)).2) k ∧ Fr 313 314 h h') := by
  refine eX11_nears ?_
  have set : (nearF t u (z.2.2.1, z.2.2.2.1)) = (t, u) → PX11_nears_25 E (kV fun h' => MoZ h' (zG z (nearF t u (z.2.2.1, z.2.2.2.1)).1 (nearF t u (z.2.2.1, z.2.2.2.1)).2) k ∧ Fr 313 314 h h') h (some 313) t u := fun e => by
    rw [e]
    unfold PX11_nears_25
    refine (wr_iff H.1).mpr ⟨Nat.le_of_ble_eq_true rfl, (wr_iff (gs H.1)).mpr ⟨Nat.le_of_ble_eq_true rfl, rfl, ?_, fr313.trans fr313⟩⟩
    rw [List.set_set]; exact H.set (zG z t u)
  unfold PX11_nears_0
  refine (rdJ_iff H.1).mpr ⟨_, rfl, fun c => set (if_pos (Or.inl (lg_eq0.mp c))), fun c => (rdJ_iff H.1).mpr ⟨_, rfl, (rdJ_iff H.1).mpr ⟨_, rfl, fun c2 => ?_, fun c2 => set (if_pos (Or.inr (Decidable.of_not_not (mt lg_ge.mpr c2))))⟩⟩⟩
  have e : nearF t u (z.2.2.1, z.2.2.2.1) = (z.2.2.1, z.2.2.2.1) := if_neg fun w => w.elim (fun w => c (lg_eq0.mpr w)) (lg_ge.mp c2)
  rw [e]
  exact ⟨rfl, H, Fr.refl⟩
theorem m11_sides (H : MoZ h z k) (A : Blk k a SA) (B : Blk k b SB) (hi : i < SA.length) (hj : j < SB.length) (x y : Int32) : sX11_nearsSides E [aP (some 313), aI (Int32.ofNat a), aI (Int32.ofNat i), aI (Int32.ofNat b), aI (Int32.ofNat j), aI x, aI y] h (kV fun h' => MoZ h' (zG z (nsP (SA.getD i []) (SB.getD j []) x y (z.2.2.1, z.2.2.2.1)).1 (nsP (SA.getD i []) (SB.getD j []) x y (z.2.2.1, z.2.2.2.1)).2) k ∧ Fr 313 314 h h') := by
  have lA := (A.2.2.2 i hi).2.1
  have lB := (B.2.2.2 j hj).2.1
  generalize hF : (fun v e => (pre (SB.getD j []).length v e).foldl (nsStep (SA.getD i []) (SB.getD j []) x y) (z.2.2.1, z.2.2.2.1)) = F
  have F0 : F 0 0 = (z.2.2.1, z.2.2.2.1) := by rw [← hF]; rfl
  have Fr1 : ∀ v, F v (SB.getD j []).length = F (v + 1) 0 := fun v => by rw [← hF]; dsimp only; rw [pre_row]
  have Fs : ∀ v e, F v (e + 1) = nsStep (SA.getD i []) (SB.getD j []) x y (F v e) (v, e) := fun v e => by rw [← hF]; dsimp only; rw [pre_fold]
  have Fe : F (SA.getD i []).length 0 = nsP (SA.getD i []) (SB.getD j []) x y (z.2.2.1, z.2.2.2.1) := by rw [← hF]; rfl
  refine uX11_nearsSides (fun m h' l0 l1 l2 l3 l4 l5 l6 l7 => ∃ v, m = ((SA.getD i []).length - v) * 100 ∧ v ≤ (SA.getD i []).length ∧ l0 = some 313 ∧ l1 = Int32.ofNat a ∧ l2 = Int32.ofNat i ∧ l3 = Int32.ofNat b ∧ l4 = Int32.ofNat j ∧ l5 = x ∧ l6 = y ∧ l7 = Int32.ofNat v ∧ MoZ h' (zG z (F v 0).1 (F v 0).2) k ∧ Fr 313 314 h h')
    (fun m h' l0 l1 l2 l3 l4 l5 l6 l7 l8 => ∃ v e, m = ((SA.getD i []).length - v) * 100 - 1 - e ∧ v < (SA.getD i []).length ∧ e ≤ (SB.getD j []).length ∧ l0 = some 313 ∧ l1 = Int32.ofNat a ∧ l2 = Int32.ofNat i ∧ l3 = Int32.ofNat b ∧ l4 = Int32.ofNat j ∧ l5 = x ∧ l6 = y ∧ l7 = Int32.ofNat v ∧ l8 = Int32.ofNat e ∧ MoZ h' (zG z (F v e).1 (F v e).2) k ∧ Fr 313 314 h h') ?_ ?_ ?_
  · exact ⟨_, 0, rfl, Nat.zero_le _, rfl, rfl, rfl, rfl, rfl, rfl, rfl, rfl, by rw [F0]; exact H, Fr.refl⟩
  · rintro m h' l0 l1 l2 l3 l4 l5 l6 l7 ⟨v, rfl, hv, rfl, rfl, rfl, rfl, rfl, rfl, rfl, rfl, H', f⟩
    unfold PX11_nearsSides_3
    refine cvI H'.1 (m11_vertices H' A hi) ⟨fun c => ?_, fun c => ?_⟩
    · have hvv : v = (SA.getD i []).length := by have := (i32_le (by omega) (by omega)).mp c; omega
      rw [hvv, Fe] at H'
      exact ⟨rfl, H', f⟩
    · have hvv : v < (SA.getD i []).length := by have := mt (i32_le (i := (SA.getD i []).length) (j := v) (by omega) (by omega)).mpr c; omega
      exact ⟨_, by omega, v, 0, rfl, hvv, Nat.zero_le _, rfl, rfl, rfl, rfl, rfl, rfl, rfl, rfl, rfl, H', f⟩
  · rintro m h' l0 l1 l2 l3 l4 l5 l6 l7 l8 ⟨v, e, rfl, hv, he, rfl, rfl, rfl, rfl, rfl, rfl, rfl, rfl, rfl, H', f⟩
    unfold PX11_nearsSides_17
    refine cvI H'.1 (m11_vertices H' B hj) ⟨fun c => ?_, fun c => ?_⟩
    · have hee : e = (SB.getD j []).length := by have := (i32_le (by omega) (by omega)).mp c; omega
      rw [hee, Fr1] at H'
      exact ⟨((SA.getD i []).length - (v + 1)) * 100, by omega, v + 1, rfl, hv, rfl, rfl, rfl, rfl, rfl, rfl, rfl, i32_s v, H', f⟩
    · have hee : e < (SB.getD j []).length := by have := mt (i32_le (i := (SB.getD j []).length) (j := e) (by omega) (by omega)).mpr c; omega
      rw [i32_s]
      have O := H'.1
      refine cvI O (m11_xOf H' B hj (by omega)) (cvI O (m11_xOf H' B hj (by omega)) fun v7 e7 => cvI O (m11_yOf H' B hj (by omega)) (cvI O (m11_yOf H' B hj (by omega)) fun v12 e12 => cvI O (m11_xOf H' A hi (by omega)) (cvI O (m11_xOf H' B hj (by omega)) fun v17 e17 => cvI O (m11_yOf H' A hi (by omega)) (cvI O (m11_yOf H' B hj (by omega)) fun v22 e22 v23 e23 v24 e24 v25 e25 => ?_))))
      have st : F v (e + 1) = nsQ (F v e) v7 v12 v17 v22 := by rw [Fs, e7, e12, e17, e22]; rfl
      have go : ∀ h2 (t u : Int64), F v (e + 1) = nearF t u (F v e) → MoZ h2 (zG (zG z (F v e).1 (F v e).2) (nearF t u (F v e)).1 (nearF t u (F v e)).2) k → Fr 313 314 h' h2 → ∃ m', m' < ((SA.getD i []).length - v) * 100 - 1 - e ∧ ∃ v_1 e_1, m' = ((SA.getD i []).length - v_1) * 100 - 1 - e_1 ∧ v_1 < (SA.getD i []).length ∧ e_1 ≤ (SB.getD j []).length ∧ some 313 = some 313 ∧ Int32.ofNat a = Int32.ofNat a ∧ Int32.ofNat i = Int32.ofNat i ∧ Int32.ofNat b = Int32.ofNat b ∧ Int32.ofNat j = Int32.ofNat j ∧ l5 = l5 ∧ l6 = l6 ∧ Int32.ofNat v = Int32.ofNat v_1 ∧ Int32.ofNat (e + 1) = Int32.ofNat e_1 ∧ MoZ h2 (zG z (F v_1 e_1).1 (F v_1 e_1).2) k ∧ Fr 313 314 h h2 := fun h2 t u eF H2 f2 =>
        ⟨((SA.getD i []).length - v) * 100 - 1 - (e + 1), by omega, v, e + 1, rfl, hv, hee, rfl, rfl, rfl, rfl, rfl, rfl, rfl, rfl, rfl, by rw [eF]; exact H2, f.trans f2⟩
      have no : ¬ (0 < v23 ∧ v23 < v24) → PX11_nearsSides_193 E (kV fun h'' => MoZ h'' (zG z (nsP (SA.getD i []) (SB.getD j []) l5 l6 (z.2.2.1, z.2.2.2.1)).1 (nsP (SA.getD i []) (SB.getD j []) l5 l6 (z.2.2.1, z.2.2.2.1)).2) k ∧ Fr 313 314 h h'') (fun h'' l0 l1 l2 l3 l4 l5' l6' l7 l8 => ∃ m', m' < ((SA.getD i []).length - v) * 100 - 1 - e ∧ ∃ v e, m' = ((SA.getD i []).length - v) * 100 - 1 - e ∧ v < (SA.getD i []).length ∧ e ≤ (SB.getD j []).length ∧ l0 = some 313 ∧ l1 = Int32.ofNat a ∧ l2 = Int32.ofNat i ∧ l3 = Int32.ofNat b ∧ l4 = Int32.ofNat j ∧ l5' = l5 ∧ l6' = l6 ∧ l7 = Int32.ofNat v ∧ l8 = Int32.ofNat e ∧ MoZ h'' (zG z (F v e).1 (F v e).2) k ∧ Fr 313 314 h h'') h' (some 313) (Int32.ofNat a) (Int32.ofNat i) (Int32.ofNat b) (Int32.ofNat j) l5 l6 (Int32.ofNat v) (Int32.ofNat e) v17 v22 := fun w => by
        unfold PX11_nearsSides_193
        rw [i32_s]
        refine cvVq O (m11_nears H' _ _) fun h2 q2 => go h2 _ _ ?_ q2.1 q2.2
        rw [st]; unfold nsQ; rw [← e23, ← e24, if_neg w]
      refine ⟨fun c1 => no fun w => (lg_le.mp c1) w.1, fun c1 => ⟨fun c2 => no fun w => (lg_ge.mp c2) w.2, fun c2 => ?_⟩⟩
      refine cvVq O (m11_nears H' _ _) fun h2 q2 => go h2 _ _ ?_ q2.1 q2.2
      rw [st]; unfold nsQ; rw [← e23, ← e24, ← e25, if_pos ⟨Decidable.of_not_not (mt lg_le.mpr c1), Decidable.of_not_not (mt lg_ge.mpr c2)⟩]
theorem m11_gap (H : MoZ h z k) (A : Blk k a SA) (B : Blk k b SB) (x y : Int32) : sX11_laysGap E [aP (some 313), aI (Int32.ofNat a), aI (Int32.ofNat b), aI x, aI y] h (kV fun h' => (∃ z', MoZ h' z' k ∧ (z'.2.2.1, z'.2.2.2.1) = lgP SA SB x y) ∧ Fr 313 314 h h') := by
  have lA := A.2.1
  have lB := B.2.1
  generalize hF : (fun v e => (pre SB.length v e).foldl (lgStep SA SB x y) (0, 0)) = F
  have F0 : F 0 0 = (0, 0) := by rw [← hF]; rfl
  have Fr1 : ∀ v, F v SB.length = F (v + 1) 0 := fun v => by rw [← hF]; dsimp only; rw [pre_row]
  have Fs : ∀ v e, F v (e + 1) = lgStep SA SB x y (F v e) (v, e) := fun v e => by rw [← hF]; dsimp only; rw [pre_fold]
  have Fe : (if anyP SA SB x y 0 1 = true then (0, 1) else F SA.length 0) = lgP SA SB x y := by rw [← hF]; rfl
  refine uX11_laysGap (fun m h' l0 l1 l2 l3 l4 l5 => ∃ i, m = (SA.length - i) * 10 ∧ i ≤ SA.length ∧ l0 = some 313 ∧ l1 = Int32.ofNat a ∧ l2 = Int32.ofNat b ∧ l3 = x ∧ l4 = y ∧ l5 = Int32.ofNat i ∧ MoZ h' (zG z (F i 0).1 (F i 0).2) k ∧ Fr 313 314 h h')
    (fun m h' l0 l1 l2 l3 l4 l5 l6 => ∃ i j, m = (SA.length - i) * 10 - 1 - j ∧ i < SA.length ∧ j ≤ SB.length ∧ l0 = some 313 ∧ l1 = Int32.ofNat a ∧ l2 = Int32.ofNat b ∧ l3 = x ∧ l4 = y ∧ l5 = Int32.ofNat i ∧ l6 = Int32.ofNat j ∧ MoZ h' (zG z (F i j).1 (F i j).2) k ∧ Fr 313 314 h h') ?_ ?_ ?_
  · unfold PX11_laysGap_0
    refine (wr_iff H.1).mpr ⟨Nat.le_of_ble_eq_true rfl, (wr_iff (gs H.1)).mpr ⟨Nat.le_of_ble_eq_true rfl, ?_⟩⟩
    rw [List.set_set]
    exact ⟨_, 0, rfl, Nat.zero_le _, rfl, rfl, rfl, rfl, rfl, rfl, by rw [F0]; exact H.set (zG z 0 0), fr313⟩
  · rintro m h' l0 l1 l2 l3 l4 l5 ⟨i, rfl, hi, rfl, rfl, rfl, rfl, rfl, rfl, H', f⟩
    unfold PX11_laysGap_13
    refine cvI H'.1 (m11_pieces H' A) ⟨fun c => ?_, fun c => ?_⟩
    · have hii : i = SA.length := by have := (i32_le (by omega) (by omega)).mp c; omega
      subst hii
      refine cvIq H'.1 (m11_isAny H' A B l3 l4 0 1) fun v h2 q2 => ?_
      obtain ⟨e2, ⟨n1, n2, H2⟩, f2⟩ := q2
      refine ⟨fun c2 => ⟨rfl, ⟨_, H2, ?_⟩, f.trans f2⟩, fun c2 => (wr_iff H2.1).mpr ⟨Nat.le_of_ble_eq_true rfl, (wr_iff (gs H2.1)).mpr ⟨Nat.le_of_ble_eq_true rfl, rfl, ⟨zG (zN (zG z (F SA.length 0).1 (F SA.length 0).2) n1 n2) 0 1, ?_, ?_⟩, (f.trans f2).trans (fr313.trans fr313)⟩⟩⟩
      · rw [← Fe, if_neg (r00 e2 c2)]
      · rw [List.set_set]; exact H2.set (zG (zN (zG z (F SA.length 0).1 (F SA.length 0).2) n1 n2) 0 1)
      · rw [← Fe, if_pos (r01 e2 c2)]
    · have hii : i < SA.length := by have := mt (i32_le (i := SA.length) (j := i) (by omega) (by omega)).mpr c; omega
      exact ⟨_, by omega, i, 0, rfl, hii, Nat.zero_le _, rfl, rfl, rfl, rfl, rfl, rfl, rfl, H', f⟩
  · rintro m h' l0 l1 l2 l3 l4 l5 l6 ⟨i, j, rfl, hi, hj, rfl, rfl, rfl, rfl, rfl, rfl, rfl, H', f⟩
    unfold PX11_laysGap_26
    refine cvI H'.1 (m11_pieces H' B) ⟨fun c => ?_, fun c => ?_⟩
    · have hjj : j = SB.length := by have := (i32_le (by omega) (by omega)).mp c; omega
      rw [hjj, Fr1] at H'
      exact ⟨(SA.length - (i + 1)) * 10, by omega, i + 1, rfl, hi, rfl, rfl, rfl, rfl, rfl, i32_s i, H', f⟩
    · have hjj : j < SB.length := by have := mt (i32_le (i := SB.length) (j := j) (by omega) (by omega)).mpr c; omega
      refine cvVq H'.1 (m11_sides H' A B hi hjj l3 l4) fun h4 q4 => ?_
      refine cvVq q4.1.1 (m11_sides q4.1 B A hjj hi (-l3) (-l4)) fun h6 q6 => ?_
      exact ⟨(SA.length - i) * 10 - 1 - (j + 1), by omega, i, j + 1, rfl, hi, hjj, rfl, rfl, rfl, rfl, rfl, rfl, i32_s j, by rw [Fs]; exact q6.1, (f.trans q4.2).trans q6.2⟩
theorem m11_common {u v : Nat} (hu : u < 4611686018427387904) (hv : v < 4611686018427387904) : sX11_common E [aJ (Int64.ofNat u), aJ (Int64.ofNat v)] h (kJ fun r h' => r = Int64.ofNat (Nat.gcd u v) ∧ h' = h) := by
  refine uX11_common (fun m h' l4 l6 => ∃ c d, m = d ∧ h' = h ∧ l4 = Int64.ofNat c ∧ l6 = Int64.ofNat d ∧ c < 4611686018427387904 ∧ d < 4611686018427387904 ∧ Nat.gcd c d = Nat.gcd u v) ?_ ?_
  · exact ⟨_, u, v, rfl, rfl, rfl, rfl, hu, hv, rfl⟩
  · rintro m h' l4 l6 ⟨c, d, rfl, rfl, rfl, rfl, hc, hd, hg⟩
    unfold PX11_common_6
    refine ⟨fun c1 => ?_, fun c1 => ⟨fun w => c1 (lg_eq0.mpr w), fun v1 e1 => ?_⟩⟩
    · have : m = 0 := i64_inj (n := 0) hd (by omega) (lg_eq0.mp c1)
      rw [this, Nat.gcd_zero_right] at hg
      exact ⟨_, rfl, by rw [hg], rfl⟩
    · have hm : 0 < m := Nat.pos_of_ne_zero fun w => c1 (lg_eq0.mpr (by rw [w]; rfl))
      have hlt : c % m < m := Nat.mod_lt _ hm
      refine ⟨c % m, hlt, m, c % m, rfl, rfl, rfl, by rw [e1, i64_rem hc hd], hd, by omega, ?_⟩
      rw [← hg, Nat.gcd_comm m, ← Nat.gcd_rec, Nat.gcd_comm]
def partN (u v : Nat) (p : Int32) : Int32 := (Int64.ofNat (if p = 0 then u else v) / Int64.ofNat (Nat.gcd u v)).toInt32
theorem m11_part {u v : Nat} (hu : u < 4611686018427387904) (hv : v < 4611686018427387904) (h0 : 0 < v) (p : Int32) : sX11_part E [aJ (Int64.ofNat u), aJ (Int64.ofNat v), aI p] h (kI fun r h' => r = partN u v p ∧ h' = h) := by
  refine eX11_part ?_
  unfold PX11_part_0
  have hg : 0 < Nat.gcd u v := Nat.gcd_pos_of_pos_right _ h0
  have hgl : Nat.gcd u v ≤ v := Nat.gcd_le_right _ h0
  have ne : Int64.ofNat (Nat.gcd u v) ≠ 0 := fun w => by
    have := i64_inj (n := 0) (by omega) (by omega) w
    omega
  refine ⟨_, m11_common hu hv, fun r h' ⟨x, e, ex, eh⟩ => ⟨x, e, ?_⟩⟩
  subst ex eh
  refine ⟨fun c => ⟨ne, _, rfl, ?_, rfl⟩, fun c => ⟨ne, _, rfl, ?_, rfl⟩⟩ <;> unfold partN
  · rw [if_neg c]
  · rw [if_pos c]
theorem m11_meets (H : MoZ h z k) (A : Blk k a SA) (B : Blk k b SB) (hi : i < SA.length) (hj : j < SB.length) (x y dx dy : Int32) : sX11_meets E [aP (some 313), aI (Int32.ofNat a), aI (Int32.ofNat i), aI (Int32.ofNat b), aI (Int32.ofNat j), aI x, aI y, aI dx, aI dy] h (kI fun r h' => r = (if (mtP (SA.getD i []) (SB.getD j []) x y dx dy).1 = true then 1 else 0) ∧ (∃ n1 n2, MoZ h' (zB (zN z n1 n2) (mtP (SA.getD i []) (SB.getD j []) x y dx dy).2.1 (mtP (SA.getD i []) (SB.getD j []) x y dx dy).2.2) k) ∧ Fr 313 314 h h') := by
  have lA := (A.2.2.2 i hi).2.1
  have lB := (B.2.2.2 j hj).2.1
  generalize hPA : SA.getD i [] = PA at *
  generalize hPB : SB.getD j [] = PB at *
  refine uX11_meets (fun m h' l0 l1 l2 l3 l4 l5 l6 l7 l8 l9 l11 l13 => ∃ q bg n1 n2, m + q = 4 + PA.length + PB.length ∧ l0 = some 313 ∧ l1 = Int32.ofNat a ∧ l2 = Int32.ofNat i ∧ l3 = Int32.ofNat b ∧ l4 = Int32.ofNat j ∧ l5 = x ∧ l6 = y ∧ l7 = dx ∧ l8 = dy ∧ l13 = Int32.ofNat q ∧ mtGo PA PB x y dx dy m q (l9, l11) bg = mtP PA PB x y dx dy ∧ MoZ h' (zB (zN z n1 n2) bg.1 bg.2) k ∧ Fr 313 314 h h') ?_ ?_
  · unfold PX11_meets_0
    refine (wr_iff H.1).mpr ⟨Nat.le_of_ble_eq_true rfl, (wr_iff (gs H.1)).mpr ⟨Nat.le_of_ble_eq_true rfl, ?_⟩⟩
    rw [List.set_set]
    exact ⟨_, 0, (-100000, 1), z.1, z.2.1, rfl, rfl, rfl, rfl, rfl, rfl, rfl, rfl, rfl, rfl, rfl, rfl, H.set (zB z (-100000) 1), fr313⟩
  · rintro m h' l0 l1 l2 l3 l4 l5 l6 l7 l8 l9 l11 l13 ⟨q, bg, n1, n2, hq, rfl, rfl, rfl, rfl, rfl, rfl, rfl, rfl, rfl, rfl, hgo, H', f⟩
    unfold PX11_meets_23
    have N := m11_normals (E := E) H' A B hi hj
    rw [hPA, hPB] at N
    refine cvI H'.1 N ⟨fun c => ?_, fun c => ?_⟩
    · have : 4 + PA.length + PB.length ≤ q := (i32_le (by omega) (by omega)).mp c
      have : m = 0 := by omega
      subst this
      have hgo : (decide (0 < l9 ∧ bg.1 * l11 < l9 * bg.2), bg) = mtP PA PB l5 l6 l7 l8 := hgo
      rw [← hgo]
      refine ⟨fun c2 => ⟨_, rfl, ?_, ⟨n1, n2, H'⟩, f⟩, fun c2 => (rdJ_iff H'.1).mpr ⟨_, rfl, (rdJ_iff H'.1).mpr ⟨_, rfl, fun c3 => ⟨_, rfl, ?_, ⟨n1, n2, H'⟩, f⟩, fun c3 => ⟨_, rfl, ?_, ⟨n1, n2, H'⟩, f⟩⟩⟩⟩
      · rw [if_neg]; intro w; exact lg_le.mp c2 (of_decide_eq_true w).1
      · rw [if_neg]; intro w; exact lg_ge.mp c3 (of_decide_eq_true w).2
      · rw [if_pos]; exact decide_eq_true ⟨Decidable.of_not_not (mt lg_le.mpr c2), Decidable.of_not_not (mt lg_ge.mpr c3)⟩
    · have hlt : ¬ 4 + PA.length + PB.length ≤ q := fun w => c ((i32_le (by omega) (by omega)).mpr w)
      obtain ⟨t, rfl⟩ : ∃ t, m = t + 1 := ⟨m - 1, by omega⟩
      rw [mtGo_succ] at hgo
      have N1 := m11_normal (E := E) H' A B hi hj (q := q) (by rw [hPA, hPB]; omega)
      rw [hPA, hPB] at N1
      refine cvV H'.1 N1 ?_
      have H1 := H'.set (zN (zB (zN z n1 n2) bg.1 bg.2) (nrmN PA PB q).1 (nrmN PA PB q).2)
      have R1 := m11_reach (E := E) H1 A B hi hj 0
      rw [hPA, hPB] at R1
      refine cvI H1.1 R1 ((rdI_iff H1.1).mpr ⟨_, rfl, (rdI_iff H1.1).mpr ⟨_, rfl, fun v9 e9 => (rdI_iff H1.1).mpr ⟨_, rfl, (rdI_iff H1.1).mpr ⟨_, rfl, fun v12 e12 => ?_⟩⟩⟩⟩)
      have e9 : v9 = mtL PA PB l5 l6 q := e9
      have e12 : v12 = mtS PA PB l7 l8 q := e12
      rw [← e9, ← e12] at hgo
      have go : ¬ (v12 = 0 ∧ ¬ 0 < v9) → PX11_meets_111 E (kI fun r h'' => r = (if (mtP PA PB l5 l6 l7 l8).1 = true then 1 else 0) ∧ (∃ n1 n2, MoZ h'' (zB (zN z n1 n2) (mtP PA PB l5 l6 l7 l8).2.1 (mtP PA PB l5 l6 l7 l8).2.2) k) ∧ Fr 313 314 h h'') (fun h'' l0 l1 l2 l3 l4 l5' l6' l7' l8' l9 l11 l13 => ∃ m', m' < t + 1 ∧ ∃ q bg n1 n2, m' + q = 4 + PA.length + PB.length ∧ l0 = some 313 ∧ l1 = Int32.ofNat a ∧ l2 = Int32.ofNat i ∧ l3 = Int32.ofNat b ∧ l4 = Int32.ofNat j ∧ l5' = l5 ∧ l6' = l6 ∧ l7' = l7 ∧ l8' = l8 ∧ l13 = Int32.ofNat q ∧ mtGo PA PB l5 l6 l7 l8 m' q (l9, l11) bg = mtP PA PB l5 l6 l7 l8 ∧ MoZ h'' (zB (zN z n1 n2) bg.1 bg.2) k ∧ Fr 313 314 h h'') (h'.set 313 (mob k.2.2.2.1 k.2.2.2.2 (zN (zB (zN z n1 n2) bg.1 bg.2) (nrmN PA PB q).1 (nrmN PA PB q).2))) (some 313) (Int32.ofNat a) (Int32.ofNat i) (Int32.ofNat b) (Int32.ofNat j) l5 l6 l7 l8 l9 l11 (Int32.ofNat q) v9 v12 := fun cc => by
        rw [if_neg cc] at hgo
        have fin : ∀ h2 (e1 e2 : Int64) (b' : FQ), (e1, e2) = (mtUp (l9, l11) bg v9 v12).1 → b' = (mtUp (l9, l11) bg v9 v12).2 → MoZ h2 (zB (zN z (nrmN PA PB q).1 (nrmN PA PB q).2) b'.1 b'.2) k → Fr 313 314 h h2 → ∃ m', m' < t + 1 ∧ ∃ q_1 bg n1 n2, m' + q_1 = 4 + PA.length + PB.length ∧ some 313 = some 313 ∧ Int32.ofNat a = Int32.ofNat a ∧ Int32.ofNat i = Int32.ofNat i ∧ Int32.ofNat b = Int32.ofNat b ∧ Int32.ofNat j = Int32.ofNat j ∧ l5 = l5 ∧ l6 = l6 ∧ l7 = l7 ∧ l8 = l8 ∧ Int32.ofNat q + 1 = Int32.ofNat q_1 ∧ mtGo PA PB l5 l6 l7 l8 m' q_1 (e1, e2) bg = mtP PA PB l5 l6 l7 l8 ∧ MoZ h2 (zB (zN z n1 n2) bg.1 bg.2) k ∧ Fr 313 314 h h2 := fun h2 e1 e2 b' ee eb H2 f2 =>
          ⟨t, by omega, q + 1, b', _, _, by omega, rfl, rfl, rfl, rfl, rfl, rfl, rfl, rfl, rfl, i32_s q, by rw [ee, eb]; exact hgo, H2, f2⟩
        have t140 : ∀ e1 e2 : Int64, (e1, e2) = (mtUp (l9, l11) bg v9 v12).1 → PX11_meets_140 E (kI fun r h'' => r = (if (mtP PA PB l5 l6 l7 l8).1 = true then 1 else 0) ∧ (∃ n1 n2, MoZ h'' (zB (zN z n1 n2) (mtP PA PB l5 l6 l7 l8).2.1 (mtP PA PB l5 l6 l7 l8).2.2) k) ∧ Fr 313 314 h h'') (fun h'' l0 l1 l2 l3 l4 l5' l6' l7' l8' l9 l11 l13 => ∃ m', m' < t + 1 ∧ ∃ q bg n1 n2, m' + q = 4 + PA.length + PB.length ∧ l0 = some 313 ∧ l1 = Int32.ofNat a ∧ l2 = Int32.ofNat i ∧ l3 = Int32.ofNat b ∧ l4 = Int32.ofNat j ∧ l5' = l5 ∧ l6' = l6 ∧ l7' = l7 ∧ l8' = l8 ∧ l13 = Int32.ofNat q ∧ mtGo PA PB l5 l6 l7 l8 m' q (l9, l11) bg = mtP PA PB l5 l6 l7 l8 ∧ MoZ h'' (zB (zN z n1 n2) bg.1 bg.2) k ∧ Fr 313 314 h h'') (h'.set 313 (mob k.2.2.2.1 k.2.2.2.2 (zN (zB (zN z n1 n2) bg.1 bg.2) (nrmN PA PB q).1 (nrmN PA PB q).2))) (some 313) (Int32.ofNat a) (Int32.ofNat i) (Int32.ofNat b) (Int32.ofNat j) l5 l6 l7 l8 e1 e2 (Int32.ofNat q) v9 v12 := fun e1 e2 ee => by
          unfold PX11_meets_140
          have keep : ¬ (v12 < 0 ∧ bg.1 * -v12 < -v9 * bg.2) → bg = (mtUp (l9, l11) bg v9 v12).2 := fun w => by unfold mtUp; dsimp only; rw [if_neg w]
          refine ⟨fun c1 => fin _ _ _ bg ee (keep fun w => lg_ge.mp c1 w.1) H1 (f.trans fr313), fun c1 => (rdJ_iff H1.1).mpr ⟨_, rfl, (rdJ_iff H1.1).mpr ⟨_, rfl, fun c2 => fin _ _ _ bg ee (keep fun w => lg_le.mp c2 w.2) H1 (f.trans fr313), fun c2 => (wr_iff H1.1).mpr ⟨Nat.le_of_ble_eq_true rfl, (wr_iff (gs H1.1)).mpr ⟨Nat.le_of_ble_eq_true rfl, fin _ _ _ (-v9, -v12) ee ?_ ?_ ((f.trans fr313).trans (fr313.trans fr313))⟩⟩⟩⟩⟩
          · unfold mtUp; dsimp only; rw [if_pos ⟨Decidable.of_not_not (mt lg_ge.mpr c1), Decidable.of_not_not (mt lg_le.mpr c2)⟩]
          · rw [List.set_set]; exact H1.set (zB (zN z (nrmN PA PB q).1 (nrmN PA PB q).2) (-v9) (-v12))
        unfold PX11_meets_111
        refine ⟨fun c1 => t140 _ _ ?_, fun c1 => ⟨fun c2 => t140 _ _ ?_, fun c2 => t140 _ _ ?_⟩⟩
        · unfold mtUp; dsimp only; rw [if_neg fun w => lg_le.mp c1 w.1]
        · unfold mtUp; dsimp only; rw [if_neg fun w => lg_ge.mp c2 w.2]
        · unfold mtUp; dsimp only; rw [if_pos ⟨Decidable.of_not_not (mt lg_le.mpr c1), Decidable.of_not_not (mt lg_ge.mpr c2)⟩]
      refine ⟨fun c1 => go fun w => c1 (lg_eq0.mpr w.1), fun c1 => ⟨fun c2 => go fun w => w.2 (lg_gt.mp c2), fun c2 => ?_⟩⟩
      rw [if_pos ⟨lg_eq0.mp c1, fun w => c2 (lg_gt.mpr w)⟩] at hgo
      rw [← hgo]
      exact ⟨_, rfl, rfl, ⟨_, _, H1⟩, f.trans fr313⟩
theorem m11_stops (H : MoZ h z k) (A : Blk k a SA) (B : Blk k b SB) (x y d : Int32) : sX11_stops E [aP (some 313), aI (Int32.ofNat a), aI (Int32.ofNat b), aI x, aI y, aI d] h (kI fun r h' => r = (if 0 < (stP SA SB x y (dxR d) (dyR d) z.2.2.2.2.2.2.1).2 then 1 else 0) ∧ (∃ z', MoZ h' z' k ∧ (z'.2.2.2.2.2.2.1, z'.2.2.2.2.2.2.2.1) = stP SA SB x y (dxR d) (dyR d) z.2.2.2.2.2.2.1) ∧ Fr 313 314 h h') := by
  have lA := A.2.1
  have lB := B.2.1
  generalize hs : z.2.2.2.2.2.2.1 = s1
  generalize hF : (fun v e => (pre SB.length v e).foldl (stStep SA SB x y (dxR d) (dyR d)) (s1, 0)) = F
  have F0 : F 0 0 = (s1, 0) := by rw [← hF]; rfl
  have Fr1 : ∀ v, F v SB.length = F (v + 1) 0 := fun v => by rw [← hF]; dsimp only; rw [pre_row]
  have Fs : ∀ v e, F v (e + 1) = stStep SA SB x y (dxR d) (dyR d) (F v e) (v, e) := fun v e => by rw [← hF]; dsimp only; rw [pre_fold]
  have Fe : F SA.length 0 = stP SA SB x y (dxR d) (dyR d) s1 := by rw [← hF]; rfl
  refine uX11_stops (fun m h' l0 l1 l2 l3 l4 l5 l6 => ∃ i z', m = (SA.length - i) * 10 ∧ i ≤ SA.length ∧ l0 = some 313 ∧ l1 = Int32.ofNat a ∧ l2 = Int32.ofNat b ∧ l3 = x ∧ l4 = y ∧ l5 = d ∧ l6 = Int32.ofNat i ∧ MoZ h' (zS z' (F i 0).1 (F i 0).2) k ∧ Fr 313 314 h h')
    (fun m h' l0 l1 l2 l3 l4 l5 l6 l7 => ∃ i j z', m = (SA.length - i) * 10 - 1 - j ∧ i < SA.length ∧ j ≤ SB.length ∧ l0 = some 313 ∧ l1 = Int32.ofNat a ∧ l2 = Int32.ofNat b ∧ l3 = x ∧ l4 = y ∧ l5 = d ∧ l6 = Int32.ofNat i ∧ l7 = Int32.ofNat j ∧ MoZ h' (zS z' (F i j).1 (F i j).2) k ∧ Fr 313 314 h h') ?_ ?_ ?_
  · unfold PX11_stops_0
    refine (wr_iff H.1).mpr ⟨Nat.le_of_ble_eq_true rfl, ?_⟩
    exact ⟨_, 0, z, rfl, Nat.zero_le _, rfl, rfl, rfl, rfl, rfl, rfl, rfl, by rw [F0, ← hs]; exact H.set (zS z z.2.2.2.2.2.2.1 0), fr313⟩
  · rintro m h' l0 l1 l2 l3 l4 l5 l6 ⟨i, z', rfl, hi, rfl, rfl, rfl, rfl, rfl, rfl, rfl, H', f⟩
    unfold PX11_stops_8
    refine cvI H'.1 (m11_pieces H' A) ⟨fun c => (rdJ_iff H'.1).mpr ⟨_, rfl, ?_⟩, fun c => ?_⟩
    · have hii : i = SA.length := by have := (i32_le (by omega) (by omega)).mp c; omega
      subst hii
      rw [Fe] at H' ⊢
      exact ⟨fun c2 => ⟨_, rfl, by rw [if_neg (lg_le.mp c2)], ⟨_, H', rfl⟩, f⟩, fun c2 => ⟨_, rfl, by rw [if_pos (Decidable.of_not_not (mt lg_le.mpr c2))], ⟨_, H', rfl⟩, f⟩⟩
    · have hii : i < SA.length := by have := mt (i32_le (i := SA.length) (j := i) (by omega) (by omega)).mpr c; omega
      exact ⟨_, by omega, i, 0, z', rfl, hii, Nat.zero_le _, rfl, rfl, rfl, rfl, rfl, rfl, rfl, rfl, H', f⟩
  · rintro m h' l0 l1 l2 l3 l4 l5 l6 l7 ⟨i, j, z', rfl, hi, hj, rfl, rfl, rfl, rfl, rfl, rfl, rfl, rfl, H', f⟩
    unfold PX11_stops_21
    refine cvI H'.1 (m11_pieces H' B) ⟨fun c => ?_, fun c => ?_⟩
    · have hjj : j = SB.length := by have := (i32_le (by omega) (by omega)).mp c; omega
      rw [hjj, Fr1] at H'
      exact ⟨(SA.length - (i + 1)) * 10, by omega, i + 1, z', rfl, hi, rfl, rfl, rfl, rfl, rfl, rfl, i32_s i, H', f⟩
    · have hjj : j < SB.length := by have := mt (i32_le (i := SB.length) (j := j) (by omega) (by omega)).mpr c; omega
      refine csI (m11_dirX _) (csI (m11_dirY _) (cvIq H'.1 (m11_meets H' A B hi hjj l3 l4 (dxR l5) (dyR l5)) fun r h8 q8 => ?_))
      obtain ⟨e8, ⟨n1, n2, H8⟩, f8⟩ := q8
      have es := Fs i j
      unfold stStep at es
      dsimp only at es
      generalize mtP (SA.getD i []) (SB.getD j []) l3 l4 (dxR l5) (dyR l5) = mt8 at *
      have keep : F i (j + 1) = F i j → ∃ m', m' < (SA.length - i) * 10 - 1 - j ∧ ∃ i_1 j_1 z', m' = (SA.length - i_1) * 10 - 1 - j_1 ∧ i_1 < SA.length ∧ j_1 ≤ SB.length ∧ some 313 = some 313 ∧ Int32.ofNat a = Int32.ofNat a ∧ Int32.ofNat b = Int32.ofNat b ∧ l3 = l3 ∧ l4 = l4 ∧ l5 = l5 ∧ Int32.ofNat i = Int32.ofNat i_1 ∧ Int32.ofNat j + 1 = Int32.ofNat j_1 ∧ MoZ h8 (zS z' (F i_1 j_1).1 (F i_1 j_1).2) k ∧ Fr 313 314 h h8 := fun w =>
        ⟨(SA.length - i) * 10 - 1 - (j + 1), by omega, i, j + 1, zB (zN z' n1 n2) mt8.2.1 mt8.2.2, rfl, hi, hjj, rfl, rfl, rfl, rfl, rfl, rfl, rfl, i32_s j, by rw [w]; exact H8, f.trans f8⟩
      have new : F i (j + 1) = mt8.2 → PX11_stops_92 E (kI fun r h'' => r = (if 0 < (stP SA SB l3 l4 (dxR l5) (dyR l5) s1).2 then 1 else 0) ∧ (∃ z', MoZ h'' z' k ∧ (z'.2.2.2.2.2.2.1, z'.2.2.2.2.2.2.2.1) = stP SA SB l3 l4 (dxR l5) (dyR l5) s1) ∧ Fr 313 314 h h'') (fun h'' l0 l1 l2 l3' l4' l5' l6 l7 => ∃ m', m' < (SA.length - i) * 10 - 1 - j ∧ ∃ i j z', m' = (SA.length - i) * 10 - 1 - j ∧ i < SA.length ∧ j ≤ SB.length ∧ l0 = some 313 ∧ l1 = Int32.ofNat a ∧ l2 = Int32.ofNat b ∧ l3' = l3 ∧ l4' = l4 ∧ l5' = l5 ∧ l6 = Int32.ofNat i ∧ l7 = Int32.ofNat j ∧ MoZ h'' (zS z' (F i j).1 (F i j).2) k ∧ Fr 313 314 h h'') h8 (some 313) (Int32.ofNat a) (Int32.ofNat b) l3 l4 l5 (Int32.ofNat i) (Int32.ofNat j) := fun w => by
        unfold PX11_stops_92
        refine (rdJ_iff H8.1).mpr ⟨_, rfl, (wr_iff H8.1).mpr ⟨Nat.le_of_ble_eq_true rfl, (rdJ_iff (gs H8.1)).mpr ⟨_, rfl, (wr_iff (gs H8.1)).mpr ⟨Nat.le_of_ble_eq_true rfl, ?_⟩⟩⟩⟩
        rw [List.set_set]
        exact ⟨(SA.length - i) * 10 - 1 - (j + 1), by omega, i, j + 1, zB (zN z' n1 n2) mt8.2.1 mt8.2.2, rfl, hi, hjj, rfl, rfl, rfl, rfl, rfl, rfl, rfl, i32_s j, by rw [w]; exact H8.set (zS (zB (zN z' n1 n2) mt8.2.1 mt8.2.2) mt8.2.1 mt8.2.2), (f.trans f8).trans fr313⟩
      refine ⟨fun c8 => keep (by rw [es, if_neg fun w => r00 e8 c8 w.1]), fun c8 => (rdJ_iff H8.1).mpr ⟨_, rfl, fun c9 => new (by rw [es, if_pos ⟨r01 e8 c8, Or.inl (lg_eq0.mp c9)⟩]), fun c9 => (rdJ_iff H8.1).mpr ⟨_, rfl, (rdJ_iff H8.1).mpr ⟨_, rfl, (rdJ_iff H8.1).mpr ⟨_, rfl, (rdJ_iff H8.1).mpr ⟨_, rfl, fun c10 => keep ?_, fun c10 => new ?_⟩⟩⟩⟩⟩⟩
      · rw [es, if_neg fun w => w.2.elim (fun w => c9 (lg_eq0.mpr w)) (lg_ge.mp c10)]
      · rw [es, if_pos ⟨r01 e8 c8, Or.inr (Decidable.of_not_not (mt lg_ge.mpr c10))⟩]
end GA
