/-! the reference reads a layout -/
theorem bI_true {v : Bool} (h : ¬ bI v = 0) : v = true := by
  cases hh : v with
  | false => rw [hh] at h; exact absurd rfl h
  | true => rfl
theorem bI01 {v : Bool} : bI v = 0 ∨ bI v = 1 := by cases v <;> simp [bI]
section RL
variable {E : EV} {h : AH} {k : MK} {cs : List Int32} {p : Nat} {w : Bool} {la : Int32}
theorem plQ_le (hn : cs.length ≤ 150) (hp : p ≤ 150) : plQ cs p ≤ 150 := by
  have h1 : accP cs 45 p ≤ 150 := acc_le2 (by decide) hp hn
  unfold plQ
  split
  · rename_i c
    have := dg_lt c
    split
    · omega
    · exact dgP_le hn (by omega)
  · exact h1
theorem m11_coord (T : TxR k cs) (H : RdZ h k p w la) : sX11_coordinate E [aP (some 313)] h (kI fun r h' => (w = false → dgB cs (accP cs 45 p) = true → r = plV cs p) ∧ RdZ h' k (if w = true then p else plQ cs p) (w || !dgB cs (accP cs 45 p)) la ∧ Fr 313 314 h h') := by
  refine eX11_coordinate ?_
  unfold PX11_coordinate_0
  have hn := T.2.1
  obtain ⟨z0, G0, _⟩ := id H
  obtain ⟨z1, H1, ha1, hb1, hl1, hp1⟩ := id H
  refine cvVq G0.1 (m11_skip T H) fun h2 q2 => ?_
  obtain ⟨⟨z, H2, ha, hb, hl, hp⟩, f2⟩ := q2
  have t128 : ∀ (ng : Bool) (x : Int32) h5 (q : Nat) (v : Bool), RdZ h5 k q v la → Fr 313 314 h h5 → q = (if w = true then p else plQ cs p) → v = (w || !dgB cs (accP cs 45 p)) → (w = false → dgB cs (accP cs 45 p) = true → (if ng = true then -x else x) = plV cs p) → PX11_coordinate_128 E (kI fun r h' => (w = false → dgB cs (accP cs 45 p) = true → r = plV cs p) ∧ RdZ h' k (if w = true then p else plQ cs p) (w || !dgB cs (accP cs 45 p)) la ∧ Fr 313 314 h h') h5 (bI ng) x := fun ng x h5 q v R f5 eq ev val => by
    unfold PX11_coordinate_128
    rw [eq, ev] at R
    refine ⟨fun c => ⟨_, rfl, fun w0 d0 => ?_, R, f5⟩, fun c => ⟨_, rfl, fun w0 d0 => ?_, R, f5⟩⟩
    · have := val w0 d0
      rw [bI0.mp c, if_neg (by decide)] at this; exact this
    · have := val w0 d0
      rw [bI_true c, if_pos rfl] at this; exact this
  have t64 : ∀ (ng : Bool) (v : Bool) h4 (y : Sc), MoZ h4 y k → Fr 313 314 h h4 → (zT y).1 = Int32.ofNat (if w = true then p else accP cs 45 p) → (zT y).2.2.2.2.2.2 = la → (if w = true then p else accP cs 45 p) ≤ 150 → (w = false → (sgnP cs p = if ng = true then -1 else 1)) → v = (w || !dgB cs (accP cs 45 p)) → PX11_coordinate_64 E (kI fun r h' => (w = false → dgB cs (accP cs 45 p) = true → r = plV cs p) ∧ RdZ h' k (if w = true then p else plQ cs p) (w || !dgB cs (accP cs 45 p)) la ∧ Fr 313 314 h h') h4 (some 313) (bI ng) (some 313) (bI v) := fun ng v h4 y H4 f4 ya yl yp hsg ev => by
    unfold PX11_coordinate_64
    have H5 := H4.set (zAt y (zT y).1 (bI v))
    have f5 := f4.trans (fr313 (x := mob k.2.2.2.1 k.2.2.2.2 (zAt y (zT y).1 (bI v))))
    refine ⟨bI01, (wr_iff H4.1).mpr ⟨Nat.le_of_ble_eq_true rfl, (rdI_iff H5.1).mpr ⟨_, rfl, fun c => ?_, fun c => ?_⟩⟩⟩
    · have hv := bI_true c
      refine t128 ng 0 _ (if w = true then p else accP cs 45 p) v ⟨_, H5, ya, rfl, yl, yp⟩ f5 ?_ ev (fun w0 d0 => ?_)
      · by_cases hw : w = true
        · rw [if_pos hw, if_pos hw]
        · rw [if_neg hw, if_neg hw]
          have hw' : w = false := by simpa using hw
          have d1 : ¬ dgB cs (accP cs 45 p) = true := fun z2 => by rw [hv, hw', z2] at ev; exact absurd ev (by decide)
          unfold plQ; rw [if_neg d1]
      · rw [hv, w0, d0] at ev; exact absurd ev (by decide)
    · have hv := bI0.mp c
      have ev' := ev
      rw [hv] at ev'
      obtain ⟨w0, d0⟩ := Bool.or_eq_false_iff.mp ev'.symm
      have d1 : dgB cs (accP cs 45 p) = true := by simpa using d0
      rw [w0, if_neg (by decide)] at ya yp
      have hlt := dg_lt d1
      have ya5 : (zT (zAt y (zT y).1 (bI v))).1 = Int32.ofNat (accP cs 45 p) := ya
      refine cvI H5.1 (m11_here T H5 ya5 yp) fun v6 e6 => (rdI_iff H5.1).mpr ⟨_, rfl, (wr_iff H5.1).mpr ⟨Nat.le_of_ble_eq_true rfl, ?_⟩⟩
      have e6 : v6 = dgV cs (accP cs 45 p) := by rw [e6]; unfold dgV; rw [if_pos d1]
      subst e6
      have R8 : RdZ _ k (accP cs 45 p + 1) v la := H5.rdz (la := la) (accP cs 45 p + 1) v (by omega) (a := (zT y).1 + 1) (b := bI v) (by rw [ya, i32_s]) rfl yl
      have f8 := f5.trans (fr313 (x := mob k.2.2.2.1 k.2.2.2.2 (zAt (zAt y (zT y).1 (bI v)) ((zT y).1 + 1) (bI v))))
      have sg : ∀ x : Int32, (if ng = true then -x else x) = sgnP cs p * x := fun x => by
        rw [hsg w0]
        cases ng with
        | true => rw [if_pos rfl, if_pos rfl, neg1_mul]
        | false => rw [if_neg (by decide), if_neg (by decide), Int32.one_mul]
      refine ⟨fun c2 => t128 ng _ _ (accP cs 45 p + 1) v R8 f8 ?_ ev fun _ _ => ?_, fun c2 => ?_⟩
      · rw [w0, if_neg (by decide)]; unfold plQ; rw [if_pos d1, if_pos c2]
      · rw [sg]; unfold plV; rw [if_pos c2]
      · obtain ⟨y8, H8, a8, b8, l8, p8⟩ := id R8
        refine cvI H8.1 (m11_isDigit T H8 a8 p8) ⟨fun c3 => t128 ng _ _ (accP cs 45 p + 1) v R8 f8 ?_ ev fun _ _ => ?_, fun c3 => ?_⟩
        · have d3 := r00 rfl c3
          rw [w0, if_neg (by decide)]; unfold plQ; rw [if_pos d1, if_neg c2]; unfold dgP; rw [if_neg d3]
        · have d3 := r00 rfl c3
          rw [sg]; unfold plV; rw [if_neg c2, if_neg d3]
        · have d3 := r01 rfl c3
          have hlt3 := dg_lt d3
          refine cvI H8.1 (m11_here T H8 a8 p8) fun v13 e13 => (rdI_iff H8.1).mpr ⟨_, rfl, (wr_iff H8.1).mpr ⟨Nat.le_of_ble_eq_true rfl, ?_⟩⟩
          have R9 : RdZ _ k (accP cs 45 p + 1 + 1) v la := H8.rdz (la := la) (accP cs 45 p + 1 + 1) v (by omega) (a := (zT y8).1 + 1) (b := (zT y8).2.1) (by rw [a8, i32_s]) b8 l8
          refine t128 ng _ _ (accP cs 45 p + 1 + 1) v R9 (f8.trans fr313) ?_ ev fun _ _ => ?_
          · rw [w0, if_neg (by decide)]; unfold plQ; rw [if_pos d1, if_neg c2]; unfold dgP; rw [if_pos d3]
          · rw [sg, e13]; unfold plV; rw [if_neg c2, if_pos d3]
            congr 1
            have : dgV cs (accP cs 45 p + 1) = cur cs (accP cs 45 p + 1) - 48 := by unfold dgV; rw [if_pos d3]
            rw [this, Int32.sub_eq_add_neg, Int32.sub_eq_add_neg, Int32.add_assoc]
  have t40 : ∀ (ng : Bool) (q : Nat), q = (if w = true then p else accP cs 45 p) → q ≤ 150 → (zT z).1 + bI ng = Int32.ofNat q → (w = false → (sgnP cs p = if ng = true then -1 else 1)) → PX11_coordinate_40 E (kI fun r h' => (w = false → dgB cs (accP cs 45 p) = true → r = plV cs p) ∧ RdZ h' k (if w = true then p else plQ cs p) (w || !dgB cs (accP cs 45 p)) la ∧ Fr 313 314 h h') h2 (some 313) (bI ng) (some 313) (zT z).1 (bI ng) := fun ng q eq hq e3 hsg => by
    unfold PX11_coordinate_40
    have H3 := H2.set (zAt z ((zT z).1 + bI ng) (zT z).2.1)
    have f3 := f2.trans (fr313 (x := mob k.2.2.2.1 k.2.2.2.2 (zAt z ((zT z).1 + bI ng) (zT z).2.1)))
    have a3 : (zT (zAt z ((zT z).1 + bI ng) (zT z).2.1)).1 = Int32.ofNat q := e3
    refine (wr_iff H2.1).mpr ⟨Nat.le_of_ble_eq_true rfl, (rdI_iff H3.1).mpr ⟨_, rfl, fun c => ?_, fun c => ?_⟩⟩
    · have hw := bI_true fun q => c (hb.trans q)
      unfold PX11_coordinate_59
      exact t64 ng true _ _ H3 f3 (by rw [a3, eq]) hl (by rw [← eq]; exact hq) hsg (by rw [hw]; rfl)
    · have hw := bI0.mp (hb.symm.trans c)
      have eq' := eq
      rw [hw, if_neg (by decide)] at eq'
      refine cvI H3.1 (m11_isDigit T H3 a3 hq) ⟨fun c2 => t64 ng false _ _ H3 f3 (by rw [a3, eq]) hl (by rw [← eq]; exact hq) hsg (by rw [hw, ← eq', r01 rfl c2]; rfl), fun c2 => ?_⟩
      unfold PX11_coordinate_59
      refine t64 ng true _ _ H3 f3 (by rw [a3, eq]) hl (by rw [← eq]; exact hq) hsg ?_
      have := r00 rfl c2
      rw [hw, ← eq']; simp [this]
  have t25 : ∀ (ng : Bool) (q : Nat), q = (if w = true then p else accP cs 45 p) → q ≤ 150 → (zT z).1 + bI ng = Int32.ofNat q → (w = false → (sgnP cs p = if ng = true then -1 else 1)) → PX11_coordinate_25 E (kI fun r h' => (w = false → dgB cs (accP cs 45 p) = true → r = plV cs p) ∧ RdZ h' k (if w = true then p else plQ cs p) (w || !dgB cs (accP cs 45 p)) la ∧ Fr 313 314 h h') h2 (some 313) (bI ng) := fun ng q e1 hq e3 hsg => by
    unfold PX11_coordinate_25
    refine (rdI_iff H2.1).mpr ⟨_, rfl, fun c => ?_, fun c => ?_⟩
    · have hg := bI0.mp c
      have := t40 ng q e1 hq e3 hsg
      rw [hg] at this ⊢; exact this
    · have hg := bI_true c
      have := t40 ng q e1 hq e3 hsg
      rw [hg] at this ⊢; exact this
  refine (rdI_iff H2.1).mpr ⟨_, rfl, fun c => ?_, fun c => ?_⟩
  · have hw := bI_true fun q => c (hb.trans q)
    unfold PX11_coordinate_24
    exact t25 false p (by rw [if_pos hw]) hp1 (by rw [ha, if_pos hw]; show _ + 0 = _; rw [Int32.add_zero]) (fun q => by rw [hw] at q; exact absurd q (by decide))
  · have hw := bI0.mp (hb.symm.trans c)
    rw [hw, if_neg (by decide)] at ha hp
    refine cvI H2.1 (m11_here T H2 ha hp) ⟨fun c2 => ?_, fun c2 => ?_⟩
    · unfold PX11_coordinate_24
      refine t25 false (skp cs p) ?_ hp (by rw [ha]; show _ + 0 = _; rw [Int32.add_zero]) (fun _ => ?_)
      · rw [hw, if_neg (by decide)]; unfold accP; rw [if_neg c2]
      · unfold sgnP; rw [if_neg c2]; rfl
    · have hlt := cur_lt (cs := cs) (p := skp cs p) (by rw [c2]; decide)
      refine t25 true (skp cs p + 1) ?_ (by omega) (by rw [ha]; exact i32_s _) (fun _ => ?_)
      · rw [hw, if_neg (by decide)]; unfold accP; rw [if_pos c2]
      · unfold sgnP; rw [if_pos c2]; rfl
end RL
