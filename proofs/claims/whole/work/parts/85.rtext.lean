/-! the reference reads the text -/
def TxR (k : MK) (cs : List Int32) : Prop := k.2.2.2.2 = Int32.ofNat cs.length ∧ cs.length ≤ 150 ∧ ∀ j, j < cs.length → k.2.2.1.getD j 0 &&& 255 = cs.getD j 0
def bI (w : Bool) : Int32 := if w = true then 1 else 0
abbrev zAt (z : Sc) (a w : Int32) : Sc := zU z (a, w, (zT z).2.2)
def RdZ (h : AH) (k : MK) (p : Nat) (w : Bool) (la : Int32) : Prop := ∃ z, MoZ h z k ∧ (zT z).1 = Int32.ofNat p ∧ (zT z).2.1 = bI w ∧ (zT z).2.2.2.2.2.2 = la ∧ p ≤ 150
theorem bI0 {w : Bool} : bI w = 0 ↔ w = false := by cases w <;> simp [bI]
section RX
variable {E : EV} {h : AH} {k : MK} {cs : List Int32} {p : Nat} {w : Bool} {la : Int32}
theorem MoZ.rdz {z : Sc} (H : MoZ h z k) (p : Nat) (w : Bool) (hp : p ≤ 150) {a b : Int32} (ha : a = Int32.ofNat p) (hb : b = bI w) (hl : (zT z).2.2.2.2.2.2 = la) : RdZ (h.set 313 (mob k.2.2.2.1 k.2.2.2.2 (zAt z a b))) k p w la := ⟨_, H.set _, ha, hb, hl, hp⟩
theorem m11_here (T : TxR k cs) {z : Sc} (H : MoZ h z k) (ha : (zT z).1 = Int32.ofNat p) (hp : p ≤ 150) : sX11_here E [aP (some 313)] h (kI fun r h' => r = cur cs p ∧ h' = h) := by
  refine eX11_here ?_
  unfold PX11_here_0
  refine (rdI_iff H.1).mpr ⟨_, rfl, (rdI_iff H.1).mpr ⟨_, rfl, ?_⟩⟩
  rw [ha, T.1]
  have hn := T.2.1
  refine ⟨fun c => ⟨_, rfl, ?_, rfl⟩, fun c => (rdP_iff H.1).mpr ⟨_, rfl, (rdI_iff H.1).mpr ⟨_, rfl, ?_⟩⟩⟩
  · have := (i32_le (by omega) (by omega)).mp c
    unfold cur; rw [if_neg (by omega)]
  · have hlt := mt (i32_le (i := cs.length) (j := p) (by omega) (by omega)).mpr c
    rw [ha]
    refine aldI_of H.2.2.2.1.1 (i32_nn (by omega)) (by rw [i32_n (by omega)]; exact getD_get (by rw [H.2.2.2.1.2]; omega)) ⟨_, rfl, ?_, rfl⟩
    unfold cur; rw [if_pos (by omega)]; exact T.2.2 p (by omega)
theorem m11_isDigit (T : TxR k cs) {z : Sc} (H : MoZ h z k) (ha : (zT z).1 = Int32.ofNat p) (hp : p ≤ 150) : sX11_isDigit E [aP (some 313)] h (kI fun r h' => r = (if dgB cs p = true then 1 else 0) ∧ h' = h) := by
  refine eX11_isDigit ?_
  unfold PX11_isDigit_0
  refine cvI H.1 (m11_here T H ha hp) (csI (m11_in _ _ _) ⟨ifC01, _, rfl, ?_, rfl⟩)
  by_cases c : dgB cs p = true
  · have := of_decide_eq_true c
    rw [if_pos c, ifC_pos ⟨this.1, i32_not_lt.mpr this.2⟩]
  · rw [if_neg c, ifC_neg fun q => c (decide_eq_true ⟨q.1, i32_not_lt.mp q.2⟩)]
theorem m11_skip (T : TxR k cs) (H : RdZ h k p w la) : sX11_skip E [aP (some 313)] h (kV fun h' => RdZ h' k (if w = true then p else skp cs p) w la ∧ Fr 313 314 h h') := by
  refine uX11_skip (fun m h' l0 => ∃ q, m = cs.length - q ∧ l0 = some 313 ∧ RdZ h' k q w la ∧ (w = true → q = p) ∧ skp cs q = skp cs p ∧ Fr 313 314 h h') ⟨_, p, rfl, rfl, H, fun _ => rfl, rfl, Fr.refl⟩ ?_
  rintro m h' l0 ⟨q, rfl, rfl, H', hw, e, f⟩
  have H0 := H'
  obtain ⟨z, H', ha, hb, hl, hq⟩ := H'
  unfold PX11_skip_0
  refine (rdI_iff H'.1).mpr ⟨_, rfl, ?_⟩
  rw [show (zT z).2.1 = bI w from hb]
  refine ⟨fun c => ?_, fun c => cvI H'.1 (m11_here T H' ha hq) ⟨fun c2 => ?_, fun c2 => ?_⟩⟩
  · have hw1 : w = true := by
      cases hh : w with
      | false => rw [hh] at c; exact absurd rfl c
      | true => rfl
    refine ⟨rfl, ?_, f⟩
    rw [if_pos hw1, ← hw hw1]; exact H0
  · have hw1 : ¬ w = true := by rw [bI0.mp c]; decide
    refine ⟨rfl, ?_, f⟩
    rw [if_neg hw1, ← e, skp_stop fun hlt z2 => c2 (by unfold cur; rw [if_pos hlt]; exact z2)]
    exact H0
  · have hw1 : ¬ w = true := by rw [bI0.mp c]; decide
    have hlt : q < cs.length := cur_lt (by rw [c2]; decide)
    have h32 : cs.getD q 0 = 32 := by unfold cur at c2; rw [if_pos hlt] at c2; exact c2
    have hn := T.2.1
    refine (rdI_iff H'.1).mpr ⟨_, rfl, (wr_iff H'.1).mpr ⟨Nat.le_of_ble_eq_true rfl, cs.length - (q + 1), by omega, q + 1, rfl, rfl, ?_, fun z2 => absurd z2 hw1, by rw [← e, skp_go hlt h32], f.trans fr313⟩⟩
    exact H'.rdz (q + 1) w (by omega) (a := (zT z).1 + 1) (by rw [ha, i32_s]) hb hl
theorem rdz_keep (H : RdZ h k p w la) : ∃ z, MoZ h z k ∧ (zT z).1 = Int32.ofNat p ∧ (zT z).2.1 = bI w ∧ (zT z).2.2.2.2.2.2 = la ∧ p ≤ 150 := H
theorem bI_or {a b : Bool} : bI (a || b) = 0 ↔ a = false ∧ b = false := by cases a <;> cases b <;> simp [bI]
theorem m11_takes (T : TxR k cs) (H : RdZ h k p w la) {c : Int32} (hc : c ≠ -1) : sX11_takes E [aP (some 313), aI c] h (kV fun h' => RdZ h' k (if w = true then p else accP cs c p) (w || !decide (cur cs (skp cs p) = c)) la ∧ Fr 313 314 h h') := by
  refine eX11_takes ?_
  unfold PX11_takes_0
  have hn := T.2.1
  obtain ⟨z0, G0, _⟩ := id H
  refine cvVq G0.1 (m11_skip T H) fun h2 q2 => ?_
  obtain ⟨⟨z, H2, ha, hb, hl, hp⟩, f2⟩ := q2
  have t25 : ∀ (v : Bool), v = (w || !decide (cur cs (skp cs p) = c)) → PX11_takes_25 E (kV fun h' => RdZ h' k (if w = true then p else accP cs c p) (w || !decide (cur cs (skp cs p) = c)) la ∧ Fr 313 314 h h') h2 (some 313) (some 313) (bI v) := fun v ev => by
    unfold PX11_takes_25
    have H3 := H2.set (zAt z (zT z).1 (bI v))
    refine ⟨by cases v <;> simp [bI], (wr_iff H2.1).mpr ⟨Nat.le_of_ble_eq_true rfl, (rdI_iff H3.1).mpr ⟨_, rfl, (rdI_iff H3.1).mpr ⟨_, rfl, fun c3 => ?_, fun c3 => ?_⟩⟩⟩⟩ <;> unfold PX11_takes_45
    · have hv : v = false := bI0.mp c3
      rw [hv] at ev
      obtain ⟨w0, d0⟩ := Bool.or_eq_false_iff.mp ev.symm
      have d1 : cur cs (skp cs p) = c := by simpa using d0
      have hlt := cur_lt (cs := cs) (p := skp cs p) (by rw [d1]; exact hc)
      refine (wr_iff H3.1).mpr ⟨Nat.le_of_ble_eq_true rfl, rfl, ?_, f2.trans (fr313.trans fr313)⟩
      rw [List.set_set, ← ev, hv, w0, if_neg (by decide)]
      have ea : accP cs c p = skp cs p + 1 := by unfold accP; rw [if_pos d1]
      rw [ea]
      rw [w0, if_neg (by decide)] at ha
      exact H2.rdz (skp cs p + 1) false (by omega) (by show (zT z).1 + 1 = _; rw [ha, i32_s]) rfl hl
    · have hv : v = true := by
        cases hh : v with
        | false => rw [hh] at c3; exact absurd rfl c3
        | true => rfl
      refine (wr_iff H3.1).mpr ⟨Nat.le_of_ble_eq_true rfl, rfl, ?_, f2.trans (fr313.trans fr313)⟩
      rw [List.set_set, ← ev, hv]
      have ea : (if w = true then p else accP cs c p) = (if w = true then p else skp cs p) := by
        by_cases hw : w = true
        · rw [if_pos hw, if_pos hw]
        · rw [if_neg hw, if_neg hw]
          unfold accP
          rw [if_neg]
          intro z2
          rw [hv] at ev
          cases hh : w with
          | true => exact hw hh
          | false => rw [hh, decide_eq_true z2] at ev; exact absurd ev (by decide)
      rw [ea]
      exact H2.rdz _ true hp (by show (zT z).1 + 0 = _; rw [ha, Int32.add_zero]) rfl hl
  refine (rdI_iff H2.1).mpr ⟨_, rfl, ?_⟩
  rw [show (zT z).2.1 = bI w from hb]
  refine ⟨fun c1 => ?_, fun c1 => ?_⟩
  · have hw : w = true := by
      cases hh : w with
      | false => rw [hh] at c1; exact absurd rfl c1
      | true => rfl
    unfold PX11_takes_20
    exact t25 true (by rw [hw]; rfl)
  · have hw : w = false := bI0.mp c1
    rw [hw, if_neg (by decide)] at ha hp
    refine cvI H2.1 (m11_here T H2 ha hp) ⟨fun c2 => t25 false (by rw [hw, c2]; simp), fun c2 => ?_⟩
    unfold PX11_takes_20
    exact t25 true (by rw [hw, decide_eq_false c2]; rfl)
theorem neg1_mul {v : Int32} : (-1 : Int32) * v = -v := by
  rw [Int32.neg_mul, Int32.one_mul]
theorem dgP_le {q : Nat} (hn : cs.length ≤ 150) (hq : q ≤ 150) : dgP cs q ≤ 150 := by
  unfold dgP
  split
  · rename_i z; have := dg_lt z; omega
  · exact hq
theorem m11_number (T : TxR k cs) (H : RdZ h k p w la) : sX11_number E [aP (some 313)] h (kI fun r h' => (w = false → dgB cs (nmQ cs p) = true → r = nmV cs p) ∧ RdZ h' k (if w = true then p else dgP cs (nmQ cs p)) (w || !dgB cs (nmQ cs p)) la ∧ Fr 313 314 h h') := by
  refine eX11_number ?_
  unfold PX11_number_0
  have hn := T.2.1
  obtain ⟨z0, G0, _⟩ := id H
  refine cvVq G0.1 (m11_skip T H) fun h2 q2 => ?_
  obtain ⟨⟨z, H2, ha, hb, hl, hp⟩, f2⟩ := q2
  obtain ⟨z1, H1, ha1, hb1, hl1, hp1⟩ := id H
  -- behind the sign
  have t55 : ∀ (ng : Bool) h4, RdZ h4 k (if w = true then p else nmQ cs p) w la → Fr 313 314 h h4 → (w = false → (sgnP cs p = if ng = true then -1 else 1)) → PX11_number_55 E (kI fun r h' => (w = false → dgB cs (nmQ cs p) = true → r = nmV cs p) ∧ RdZ h' k (if w = true then p else dgP cs (nmQ cs p)) (w || !dgB cs (nmQ cs p)) la ∧ Fr 313 314 h h') h4 (some 313) (bI ng) := fun ng h4 G4 f4 hsg => by
    obtain ⟨y, H4, ya, yb, yl, yp⟩ := G4
    have t114 : ∀ (v : Bool) (x : Int32) h5 (y5 : Sc), MoZ h5 y5 k → Fr 313 314 h h5 → (zT y5).1 = Int32.ofNat (if w = true then p else nmQ cs p) → (zT y5).2.1 = bI v → (zT y5).2.2.2.2.2.2 = la → v = (w || !dgB cs (nmQ cs p)) → (v = false → x = dgV cs (nmQ cs p)) → PX11_number_96 E (kI fun r h' => (w = false → dgB cs (nmQ cs p) = true → r = nmV cs p) ∧ RdZ h' k (if w = true then p else dgP cs (nmQ cs p)) (w || !dgB cs (nmQ cs p)) la ∧ Fr 313 314 h h') h5 (some 313) (bI ng) x := fun v x h5 y5 H5 f5 a5 b5 l5 ev ex => by
      unfold PX11_number_96
      refine (rdI_iff H5.1).mpr ⟨_, rfl, (rdI_iff H5.1).mpr ⟨_, rfl, ?_⟩⟩
      rw [show (zT y5).2.1 = bI v from b5]
      have val : v = false → (if ng = true then -x else x) = nmV cs p := fun hv => by
        rw [hv] at ev
        obtain ⟨w0, d0⟩ := Bool.or_eq_false_iff.mp ev.symm
        unfold nmV
        rw [← ex hv, hsg w0]
        cases ng with
        | true => rw [if_pos rfl, if_pos rfl, neg1_mul]
        | false => rw [if_neg (by decide), if_neg (by decide), Int32.one_mul]
      have fin : ∀ (s2 : Int32) (q : Nat), (zT y5).1 + s2 = Int32.ofNat q → q = (if w = true then p else dgP cs (nmQ cs p)) → q ≤ 150 → PX11_number_114 E (kI fun r h' => (w = false → dgB cs (nmQ cs p) = true → r = nmV cs p) ∧ RdZ h' k (if w = true then p else dgP cs (nmQ cs p)) (w || !dgB cs (nmQ cs p)) la ∧ Fr 313 314 h h') h5 (bI ng) x (some 313) (zT y5).1 s2 := fun s2 q e1 e2 e3 => by
        unfold PX11_number_114
        have R := H5.rdz (la := la) q v e3 (a := (zT y5).1 + s2) e1 b5 l5
        rw [e2, ev] at R
        have vv : w = false → dgB cs (nmQ cs p) = true → (if ng = true then -x else x) = nmV cs p := fun w0 d0 => val (by rw [ev, w0, d0]; rfl)
        refine (wr_iff H5.1).mpr ⟨Nat.le_of_ble_eq_true rfl, fun c => ⟨_, rfl, fun w0 d0 => ?_, R, f5.trans fr313⟩, fun c => ⟨_, rfl, fun w0 d0 => ?_, R, f5.trans fr313⟩⟩
        · have := vv w0 d0
          rw [bI0.mp c, if_neg (by decide)] at this; exact this
        · have hng : ng = true := by
            cases hh : ng with
            | false => rw [hh] at c; exact absurd rfl c
            | true => rfl
          have := vv w0 d0
          rw [if_pos hng] at this; exact this
      refine ⟨fun c => ?_, fun c => ?_⟩
      · have hv := bI0.mp c
        have ev' := ev
        rw [hv] at ev'
        obtain ⟨w0, d0⟩ := Bool.or_eq_false_iff.mp ev'.symm
        have d1 : dgB cs (nmQ cs p) = true := by simpa using d0
        have := dg_lt d1
        refine fin 1 (nmQ cs p + 1) (by rw [a5, w0, if_neg (by decide), i32_s]) ?_ (by omega)
        rw [w0, if_neg (by decide)]; unfold dgP; rw [if_pos d1]
      · have hv : v = true := by
          cases hh : v with
          | false => rw [hh] at c; exact absurd rfl c
          | true => rfl
        refine fin 0 (if w = true then p else nmQ cs p) (by rw [a5, Int32.add_zero]) ?_ yp
        by_cases hw : w = true
        · rw [if_pos hw, if_pos hw]
        · rw [if_neg hw, if_neg hw]
          have hw' : w = false := by simpa using hw
          have d1 : ¬ dgB cs (nmQ cs p) = true := fun z2 => by rw [hv, hw', z2] at ev; exact absurd ev (by decide)
          unfold dgP; rw [if_neg d1]
    have t75 : ∀ (v : Bool), v = (w || !dgB cs (nmQ cs p)) → PX11_number_75 E (kI fun r h' => (w = false → dgB cs (nmQ cs p) = true → r = nmV cs p) ∧ RdZ h' k (if w = true then p else dgP cs (nmQ cs p)) (w || !dgB cs (nmQ cs p)) la ∧ Fr 313 314 h h') h4 (some 313) (bI ng) (some 313) (bI v) := fun v ev => by
      unfold PX11_number_75
      have H5 := H4.set (zAt y (zT y).1 (bI v))
      refine ⟨by cases v <;> simp [bI], (wr_iff H4.1).mpr ⟨Nat.le_of_ble_eq_true rfl, (rdI_iff H5.1).mpr ⟨_, rfl, fun c => ?_, fun c => ?_⟩⟩⟩
      · have hv := bI0.mp c
        have ev' := ev
        rw [hv] at ev'
        obtain ⟨w0, d0⟩ := Bool.or_eq_false_iff.mp ev'.symm
        have d1 : dgB cs (nmQ cs p) = true := by simpa using d0
        have hq : (zT (zAt y (zT y).1 (bI v))).1 = Int32.ofNat (nmQ cs p) := by show (zT y).1 = _; rw [ya, w0, if_neg (by decide)]
        rw [w0, if_neg (by decide)] at yp
        refine cvI H5.1 (m11_here T H5 hq yp) (t114 v _ _ (zAt y (zT y).1 (bI v)) H5 (f4.trans fr313) ya rfl yl ev fun _ => ?_)
        unfold dgV; rw [if_pos d1]
      · refine t114 v 0 _ (zAt y (zT y).1 (bI v)) H5 (f4.trans fr313) ya rfl yl ev fun hv => ?_
        rw [hv] at c; exact absurd rfl c
    unfold PX11_number_55
    refine (rdI_iff H4.1).mpr ⟨_, rfl, ?_⟩
    rw [show (zT y).2.1 = bI w from yb]
    refine ⟨fun c => ?_, fun c => ?_⟩
    · have hw : w = true := by
        cases hh : w with
        | false => rw [hh] at c; exact absurd rfl c
        | true => rfl
      unfold PX11_number_70
      exact t75 true (by rw [hw]; rfl)
    · have hw : w = false := bI0.mp c
      rw [hw, if_neg (by decide)] at ya yp
      refine cvI H4.1 (m11_isDigit T H4 ya yp) ⟨fun c2 => t75 false (by rw [hw, r01 rfl c2]; rfl), fun c2 => ?_⟩
      unfold PX11_number_70
      refine t75 true ?_
      have := r00 rfl c2
      rw [hw]; simp [this]
  -- the sign
  have t40 : ∀ (ng : Bool) (q : Nat), (w = false → q = accP cs 45 p) → (w = true → q = p) → q ≤ 150 → (zT z).1 + bI ng = Int32.ofNat q → (w = false → (sgnP cs p = if ng = true then -1 else 1)) → PX11_number_40 E (kI fun r h' => (w = false → dgB cs (nmQ cs p) = true → r = nmV cs p) ∧ RdZ h' k (if w = true then p else dgP cs (nmQ cs p)) (w || !dgB cs (nmQ cs p)) la ∧ Fr 313 314 h h') h2 (some 313) (bI ng) (some 313) (zT z).1 (bI ng) := fun ng q e1 e2 hq e3 hsg => by
    unfold PX11_number_40
    have R := H2.rdz (la := la) q w hq (a := (zT z).1 + bI ng) e3 hb hl
    have H3 := H2.set (zAt z ((zT z).1 + bI ng) (zT z).2.1)
    refine (wr_iff H2.1).mpr ⟨Nat.le_of_ble_eq_true rfl, (rdI_iff H3.1).mpr ⟨_, rfl, ?_⟩⟩
    refine ⟨fun c => ?_, fun c => ?_⟩
    · have c : ¬ bI w = 0 := fun q => c (hb.trans q)
      have hw : w = true := by
        cases hh : w with
        | false => rw [hh] at c; exact absurd rfl c
        | true => rfl
      refine t55 ng _ ?_ (f2.trans fr313) hsg
      rw [if_pos hw, ← e2 hw]
      have R' := H2.rdz (la := la) q w hq (a := (zT z).1 + bI ng) (b := (zT z).2.1) e3 hb hl
      exact R'
    · have hw : w = false := bI0.mp (hb.symm.trans c)
      have R' : RdZ _ k q w la := H2.rdz (la := la) q w hq (a := (zT z).1 + bI ng) (b := (zT z).2.1) e3 hb hl
      refine cvVq H3.1 (m11_skip T R') fun h4 q4 => t55 ng h4 ?_ ((f2.trans fr313).trans q4.2) hsg
      have := q4.1
      rw [hw, if_neg (by decide), e1 hw] at this
      rw [hw, if_neg (by decide)]; exact this
  have t25 : ∀ (ng : Bool) (q : Nat), (w = false → q = accP cs 45 p) → (w = true → q = p) → q ≤ 150 → (zT z).1 + bI ng = Int32.ofNat q → (w = false → (sgnP cs p = if ng = true then -1 else 1)) → PX11_number_25 E (kI fun r h' => (w = false → dgB cs (nmQ cs p) = true → r = nmV cs p) ∧ RdZ h' k (if w = true then p else dgP cs (nmQ cs p)) (w || !dgB cs (nmQ cs p)) la ∧ Fr 313 314 h h') h2 (some 313) (bI ng) := fun ng q e1 e2 hq e3 hsg => by
    unfold PX11_number_25
    refine (rdI_iff H2.1).mpr ⟨_, rfl, fun c => ?_, fun c => ?_⟩
    · have hg : ng = false := bI0.mp c
      have := t40 ng q e1 e2 hq e3 hsg
      rw [hg] at this ⊢; exact this
    · have hg : ng = true := by
        cases hh : ng with
        | false => rw [hh] at c; exact absurd rfl c
        | true => rfl
      have := t40 ng q e1 e2 hq e3 hsg
      rw [hg] at this ⊢; exact this
  refine (rdI_iff H2.1).mpr ⟨_, rfl, ?_⟩
  rw [show (zT z).2.1 = bI w from hb]
  refine ⟨fun c => ?_, fun c => ?_⟩
  · have hw : w = true := by
      cases hh : w with
      | false => rw [hh] at c; exact absurd rfl c
      | true => rfl
    unfold PX11_number_24
    exact t25 false p (fun q => by rw [hw] at q; exact absurd q (by decide)) (fun _ => rfl) hp1 (by rw [ha, if_pos hw]; show _ + 0 = _; rw [Int32.add_zero]) (fun q => by rw [hw] at q; exact absurd q (by decide))
  · have hw : w = false := bI0.mp c
    rw [hw, if_neg (by decide)] at ha hp
    refine cvI H2.1 (m11_here T H2 ha hp) ⟨fun c2 => ?_, fun c2 => ?_⟩
    · unfold PX11_number_24
      refine t25 false (skp cs p) (fun _ => ?_) (fun q => by rw [hw] at q; exact absurd q (by decide)) hp (by rw [ha]; show _ + 0 = _; rw [Int32.add_zero]) (fun _ => ?_)
      · unfold accP; rw [if_neg c2]
      · unfold sgnP; rw [if_neg c2]; rfl
    · have hlt := cur_lt (cs := cs) (p := skp cs p) (by rw [c2]; decide)
      refine t25 true (skp cs p + 1) (fun _ => ?_) (fun q => by rw [hw] at q; exact absurd q (by decide)) (by omega) (by rw [ha]; exact i32_s _) (fun _ => ?_)
      · unfold accP; rw [if_pos c2]
      · unfold sgnP; rw [if_pos c2]; rfl
end RX
