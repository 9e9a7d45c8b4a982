/-! the reference's layout, item by item -/
def LaO (h : AH) (L : List LI) : Prop := ∃ v, h[321]? = some (.inl (0, v)) ∧ v.length = 90 ∧ L.length ≤ 29 ∧ ∀ j, j < L.length → (v.getD (3 * j) 0, v.getD (3 * j + 1) 0, v.getD (3 * j + 2) 0) = L.getD j (0, 0, 0)
theorem LaO.fr {h h' : AH} {L : List LI} {lo hi : Nat} (H : LaO h L) (f : Fr lo hi h h') (d : 322 ≤ lo ∨ hi ≤ 321) : LaO h' L := by
  obtain ⟨v, h1, h2⟩ := H
  exact ⟨v, (f.2 _ (by omega)).trans h1, h2⟩
abbrev PW : Type := Nat × Bool
def tkS (cs : List Int32) (c : Int32) (s : PW) : PW := (if s.2 = true then s.1 else accP cs c s.1, s.2 || !decide (cur cs (skp cs s.1) = c))
def coS (cs : List Int32) (s : PW) : PW := (if s.2 = true then s.1 else plQ cs s.1, s.2 || !dgB cs (accP cs 45 s.1))
def t1S (cs : List Int32) (q : Nat) : PW := (if lB1 cs q = true then q + 1 else q, !lB1 cs q)
theorem tk_t {cs : List Int32} {c : Int32} {q : Nat} : tkS cs c (q, true) = (q, true) := rfl
theorem co_t {cs : List Int32} {q : Nat} : coS cs (q, true) = (q, true) := rfl
theorem tk_f {cs : List Int32} {c : Int32} {q : Nat} : tkS cs c (q, false) = (accP cs c q, !decide (cur cs (skp cs q) = c)) := rfl
theorem co_f {cs : List Int32} {q : Nat} : coS cs (q, false) = (plQ cs q, !dgB cs (accP cs 45 q)) := rfl
theorem ly_seq {cs : List Int32} {q : Nat} : tkS cs 59 (coS cs (tkS cs 44 (coS cs (tkS cs 64 (t1S cs q))))) = (liP cs q, !liB cs q) := by
  unfold liP liB
  cases e1 : lB1 cs q with
  | false =>
    have : t1S cs q = (q, true) := by unfold t1S; rw [e1]; rfl
    rw [this, tk_t, co_t, tk_t, co_t, tk_t]; rfl
  | true =>
    have : t1S cs q = (q + 1, false) := by unfold t1S; rw [e1]; rfl
    rw [this, tk_f]
    cases e2 : lB2 cs q with
    | false =>
      have d2 : decide (cur cs (skp cs (q + 1)) = 64) = false := e2
      rw [d2]
      show tkS cs 59 (coS cs (tkS cs 44 (coS cs (_, true)))) = _
      rw [co_t, tk_t, co_t, tk_t]; rfl
    | true =>
      have d2 : decide (cur cs (skp cs (q + 1)) = 64) = true := e2
      rw [d2]
      show tkS cs 59 (coS cs (tkS cs 44 (coS cs (lM1 cs q, false)))) = _
      rw [co_f]
      cases e3 : lB3 cs q with
      | false =>
        have d3 : dgB cs (accP cs 45 (lM1 cs q)) = false := e3
        rw [d3]
        show tkS cs 59 (coS cs (tkS cs 44 (_, true))) = _
        rw [tk_t, co_t, tk_t]; rfl
      | true =>
        have d3 : dgB cs (accP cs 45 (lM1 cs q)) = true := e3
        rw [d3]
        show tkS cs 59 (coS cs (tkS cs 44 (lM2 cs q, false))) = _
        rw [tk_f]
        cases e4 : lB4 cs q with
        | false =>
          have d4 : decide (cur cs (skp cs (lM2 cs q)) = 44) = false := e4
          rw [d4]
          show tkS cs 59 (coS cs (_, true)) = _
          rw [co_t, tk_t]; rfl
        | true =>
          have d4 : decide (cur cs (skp cs (lM2 cs q)) = 44) = true := e4
          rw [d4]
          show tkS cs 59 (coS cs (lM3 cs q, false)) = _
          rw [co_f]
          cases e5 : lB5 cs q with
          | false =>
            have d5 : dgB cs (accP cs 45 (lM3 cs q)) = false := e5
            rw [d5]
            show tkS cs 59 (_, true) = _
            rw [tk_t]; rfl
          | true =>
            have d5 : dgB cs (accP cs 45 (lM3 cs q)) = true := e5
            rw [d5]
            show tkS cs 59 (lM4 cs q, false) = _
            rw [tk_f]; rfl
theorem lyGo_skp {cs : List Int32} {t p : Nat} {L : List LI} : lyGo cs (t + 1) (skp cs p) L = lyGo cs (t + 1) p L := by
  have e1 : ∀ p, lyGo cs (t + 1) p L = _ := fun p => lyGo_succ
  rw [e1, e1]
  unfold lyEnd
  simp only [skp_skp]
theorem accP_ge {cs : List Int32} {c : Int32} {p : Nat} : p ≤ accP cs c p := by
  have := skp_ge (cs := cs) (p := p)
  unfold accP; split <;> omega
theorem accP_gt {cs : List Int32} {c : Int32} {p : Nat} (h : cur cs (skp cs p) = c) : p + 1 ≤ accP cs c p := by
  have := skp_ge (cs := cs) (p := p)
  unfold accP; rw [if_pos h]; omega
theorem plQ_gt {cs : List Int32} {p : Nat} (h : dgB cs (accP cs 45 p) = true) : p + 1 ≤ plQ cs p := by
  have := accP_ge (cs := cs) (c := 45) (p := p)
  unfold plQ; rw [if_pos h]
  split
  · omega
  · unfold dgP; split <;> omega
theorem li_adv {cs : List Int32} {q : Nat} (h : liB cs q = true) : q + 6 ≤ liP cs q := by
  unfold liB at h
  simp only [Bool.and_eq_true] at h
  obtain ⟨⟨⟨⟨⟨h1, h2⟩, h3⟩, h4⟩, h5⟩, h6⟩ := h
  have a1 : q + 2 ≤ lM1 cs q := accP_gt (of_decide_eq_true h2)
  have a2 : lM1 cs q + 1 ≤ lM2 cs q := plQ_gt h3
  have a3 : lM2 cs q + 1 ≤ lM3 cs q := accP_gt (of_decide_eq_true h4)
  have a4 : lM3 cs q + 1 ≤ lM4 cs q := plQ_gt h5
  have a5 : lM4 cs q + 1 ≤ accP cs 59 (lM4 cs q) := accP_gt (of_decide_eq_true h6)
  unfold liP
  rw [h1, h2, h3, h4, h5]
  simp only [Bool.true_eq_false, if_false]; omega
section LL
variable {E : EV} {h : AH} {k : MK} {cs : List Int32} {p : Nat} {w : Bool} {la : Int32} {L : List LI}
theorem MoZ.row321 {h' : AH} {z : Sc} (H : MoZ h z k) (f : Fr 321 322 h h') (a : Rw h' 321 90) : MoZ h' z k := by
  obtain ⟨h0, h1, h2, h3, h4, h5, h6, h7, h8, h9⟩ := H
  exact ⟨(f.2 _ (by omega)).trans h0, ⟨(f.2 _ (by omega)).trans h1.1, h1.2⟩, ⟨(f.2 _ (by omega)).trans h2.1, h2.2⟩, ⟨(f.2 _ (by omega)).trans h3.1, h3.2⟩, h4.fr f (by omega), h5.fr f (by omega), h6.fr f (by omega), h7.fr f (by omega), a, h9.fr f (by omega)⟩
theorem RdZ.ad (H : RdZ h k p w la) : ∃ fs, h[313]? = some (.inr (11, fs)) := by
  obtain ⟨z, H, -⟩ := H
  exact ⟨_, H.1⟩
theorem m11_readsLayout (T : TxR k cs) (hcs : ∀ c, c ∈ cs → c ≠ -1) {z : Sc} (H : MoZ h z k) : sX11_readsLayout E [aP (some 313)] h (kI fun r h' => r = (if (lyR cs).1 = true then 1 else 0) ∧ (∃ w', RdZ h' k (lyR cs).2.1 w' (Int32.ofNat (lyR cs).2.2.length)) ∧ LaO h' (lyR cs).2.2 ∧ Fr 313 322 h h') := by
  have hn := T.2.1
  have cur_ne : ∀ q, q < cs.length → cur cs q ≠ -1 := fun q hq => by
    unfold cur; rw [if_pos hq]; exact hcs _ (getD_mem 0 hq)
  refine uX11_readsLayout (fun m h' l0 => ∃ q w t L, m = (if w = true then 0 else 200 - L.length) ∧ l0 = some 313 ∧ RdZ h' k q w (Int32.ofNat L.length) ∧ LaO h' L ∧ Fr 313 322 h h' ∧ (w = true → (false, q, L) = lyR cs) ∧ (w = false → skp cs q = q ∧ 6 * L.length ≤ q ∧ q ≤ cs.length ∧ L.length + t = 150 ∧ lyGo cs t q L = lyR cs)) ?_ ?_
  · unfold PX11_readsLayout_0
    refine (wr_iff H.1).mpr ⟨Nat.le_of_ble_eq_true rfl, (wr_iff (gs H.1)).mpr ⟨Nat.le_of_ble_eq_true rfl, (wr_iff (gs (gs H.1))).mpr ⟨Nat.le_of_ble_eq_true rfl, ?_⟩⟩⟩
    repeat rw [List.set_set]
    have H1 := H.set (zU z (0, 0, (zT z).2.2.1, (zT z).2.2.2.1, (zT z).2.2.2.2.1, (zT z).2.2.2.2.2.1, 0))
    have R1 : RdZ _ k 0 false 0 := ⟨_, H1, rfl, rfl, rfl, by omega⟩
    obtain ⟨v, hv⟩ := H1.2.2.2.2.2.2.2.2.1
    refine cvVq H1.1 (m11_skip T R1) fun h5 q5 => ?_
    have R5 := q5.1
    rw [if_neg (by decide)] at R5
    refine ⟨_, skp cs 0, false, 150, [], rfl, rfl, R5, ⟨v, (q5.2.2 _ (by omega)).trans hv.1, hv.2, by simp, fun j hj => by simp at hj⟩, (fr313.weak (by omega) (by omega)).trans (q5.2.weak (by omega) (by omega)), fun q => absurd q (by decide), fun _ => ⟨skp_skp, by simp, skp_le (by omega), rfl, ?_⟩⟩
    unfold lyR
    exact lyGo_skp (t := 149)
  · rintro m h' l0 ⟨q, w, t, L, rfl, rfl, R, LA, f, hw, hg⟩
    obtain ⟨z, H', ha, hb, hl, hp⟩ := id R
    unfold PX11_readsLayout_19
    refine (rdI_iff H'.1).mpr ⟨_, rfl, fun c => ?_, fun c => (rdI_iff H'.1).mpr ⟨_, rfl, (rdI_iff H'.1).mpr ⟨_, rfl, ?_⟩⟩⟩
    · have w1 := bI_true fun q => c (hb.trans q)
      have e := hw w1
      unfold PX11_readsLayout_174
      refine (rdI_iff H'.1).mpr ⟨_, rfl, fun _ => ⟨_, rfl, by rw [← e]; rfl, ⟨w, by rw [← e]; exact R⟩, by rw [← e]; exact LA, f⟩, fun c2 => absurd c2 c⟩
    · have w0 := bI0.mp (hb.symm.trans c)
      obtain ⟨g1, g2, g3, g4, g5⟩ := hg w0
      have hLl : L.length ≤ 25 := by omega
      rw [ha, T.1]
      obtain ⟨t, rfl⟩ : ∃ s, t = s + 1 := ⟨t - 1, by omega⟩
      rw [lyGo_succ, g1] at g5
      refine ⟨fun c2 => ?_, fun c2 => ?_⟩
      · have hge := (i32_le (by omega) (by omega)).mp c2
        have hq : q = cs.length := by omega
        have ec : cur cs q = -1 := by unfold cur; rw [if_neg (by omega)]
        rw [if_pos ec] at g5
        have e2 : lyR cs = (true, q, L) := by
          rw [← g5]; unfold lyEnd; rw [g1, ec]; rfl
        unfold PX11_readsLayout_174
        refine (rdI_iff H'.1).mpr ⟨_, rfl, fun c3 => absurd c c3, fun _ => ⟨_, rfl, by rw [e2]; rfl, ⟨w, by rw [e2]; exact R⟩, by rw [e2]; exact LA, f⟩⟩
      · have hlt : q < cs.length := by have := mt (i32_le (i := cs.length) (j := q) (by omega) (by omega)).mpr c2; omega
        rw [if_neg (cur_ne q hlt)] at g5
        refine cvI H'.1 (m11_here T H' ha hp) fun v6 e6 => csI (m11_isSlot v6) ?_
        have e6 : v6 = liS cs q := e6
        subst e6
        have b1 : lB1 cs q = true ↔ Slt (liS cs q) := by
          unfold lB1 Slt
          rw [decide_eq_true_iff]
          exact ⟨fun z => ⟨z.1, i32_not_le.mpr z.2⟩, fun z => ⟨z.1, i32_not_le.mp z.2⟩⟩
        have t58 : ∀ v : Bool, v = (!lB1 cs q) → PX11_readsLayout_58 E (kI fun r h' => r = (if (lyR cs).1 = true then 1 else 0) ∧ (∃ w', RdZ h' k (lyR cs).2.1 w' (Int32.ofNat (lyR cs).2.2.length)) ∧ LaO h' (lyR cs).2.2 ∧ Fr 313 322 h h') (fun h' l0 => ∃ m', m' < (if w = true then 0 else 200 - L.length) ∧ ∃ q w t L, m' = (if w = true then 0 else 200 - L.length) ∧ l0 = some 313 ∧ RdZ h' k q w (Int32.ofNat L.length) ∧ LaO h' L ∧ Fr 313 322 h h' ∧ (w = true → (false, q, L) = lyR cs) ∧ (w = false → skp cs q = q ∧ 6 * L.length ≤ q ∧ q ≤ cs.length ∧ L.length + t = 150 ∧ lyGo cs t q L = lyR cs)) h' (some 313) (liS cs q) (some 313) (bI v) := fun v ev => by
          unfold PX11_readsLayout_58
          have H1 := H'.set (zAt z (zT z).1 (bI v))
          have go : ∀ s2 : Int32, (zT z).1 + s2 = Int32.ofNat (t1S cs q).1 → (t1S cs q).1 ≤ 150 → PX11_readsLayout_78 E (kI fun r h' => r = (if (lyR cs).1 = true then 1 else 0) ∧ (∃ w', RdZ h' k (lyR cs).2.1 w' (Int32.ofNat (lyR cs).2.2.length)) ∧ LaO h' (lyR cs).2.2 ∧ Fr 313 322 h h') (fun h' l0 => ∃ m', m' < (if w = true then 0 else 200 - L.length) ∧ ∃ q w t L, m' = (if w = true then 0 else 200 - L.length) ∧ l0 = some 313 ∧ RdZ h' k q w (Int32.ofNat L.length) ∧ LaO h' L ∧ Fr 313 322 h h' ∧ (w = true → (false, q, L) = lyR cs) ∧ (w = false → skp cs q = q ∧ 6 * L.length ≤ q ∧ q ≤ cs.length ∧ L.length + t = 150 ∧ lyGo cs t q L = lyR cs)) (h'.set 313 (mob k.2.2.2.1 k.2.2.2.2 (zAt z (zT z).1 (bI v)))) (some 313) (liS cs q) (some 313) (zT z).1 s2 := fun s2 e2 hp1 => by
            unfold PX11_readsLayout_78
            have ev2 : v = (t1S cs q).2 := ev
            have R1 : RdZ _ k (t1S cs q).1 (t1S cs q).2 (Int32.ofNat L.length) := H1.rdz (la := Int32.ofNat L.length) (t1S cs q).1 (t1S cs q).2 hp1 (a := (zT z).1 + s2) (b := bI v) e2 (by rw [ev2]) hl
            have f1 : Fr 313 314 h' _ := (fr313 (h := h') (x := mob k.2.2.2.1 k.2.2.2.2 (zAt z (zT z).1 (bI v)))).trans (fr313 (x := mob k.2.2.2.1 k.2.2.2.2 (zAt (zAt z (zT z).1 (bI v)) ((zT z).1 + s2) (bI v))))
            refine (wr_iff H1.1).mpr ⟨Nat.le_of_ble_eq_true rfl, ?_⟩
            obtain ⟨_, g11⟩ := R1.ad
            refine cvVq g11 (m11_takes T R1 (by decide)) fun h3 q3 => ?_
            obtain ⟨_, g12⟩ := q3.1.ad
            have R3 : RdZ h3 k (tkS cs 64 (t1S cs q)).1 (tkS cs 64 (t1S cs q)).2 (Int32.ofNat L.length) := q3.1
            refine cvIq g12 (m11_coord T R3) fun x4 h5 q5 => ?_
            have R5 : RdZ h5 k (coS cs (tkS cs 64 (t1S cs q))).1 (coS cs (tkS cs 64 (t1S cs q))).2 (Int32.ofNat L.length) := q5.2.1
            obtain ⟨_, g13⟩ := R5.ad
            refine cvVq g13 (m11_takes T R5 (by decide)) fun h8 q8 => ?_
            have R8 : RdZ h8 k (tkS cs 44 (coS cs (tkS cs 64 (t1S cs q)))).1 (tkS cs 44 (coS cs (tkS cs 64 (t1S cs q)))).2 (Int32.ofNat L.length) := q8.1
            obtain ⟨_, g14⟩ := R8.ad
            refine cvIq g14 (m11_coord T R8) fun x9 h10 q10 => ?_
            have R10 : RdZ h10 k (coS cs (tkS cs 44 (coS cs (tkS cs 64 (t1S cs q))))).1 (coS cs (tkS cs 44 (coS cs (tkS cs 64 (t1S cs q))))).2 (Int32.ofNat L.length) := q10.2.1
            obtain ⟨_, g15⟩ := R10.ad
            refine cvVq g15 (m11_takes T R10 (by decide)) fun h13 q13 => ?_
            have R13 : RdZ h13 k (tkS cs 59 (coS cs (tkS cs 44 (coS cs (tkS cs 64 (t1S cs q)))))).1 (tkS cs 59 (coS cs (tkS cs 44 (coS cs (tkS cs 64 (t1S cs q)))))).2 (Int32.ofNat L.length) := q13.1
            rw [ly_seq] at R13
            have ff : Fr 313 314 h' h13 := ((((f1.trans q3.2).trans q5.2.2).trans q8.2).trans q10.2.2).trans q13.2
            have LA13 := LA.fr ff (by omega)
            have fh : Fr 313 322 h h13 := f.trans (ff.weak (by omega) (by omega))
            obtain ⟨y, H13, ya, yb, yl, yp⟩ := id R13
            have mw : (if w = true then 0 else 200 - L.length) = 200 - L.length := by rw [w0, if_neg (by decide)]
            refine (rdI_iff H13.1).mpr ⟨_, rfl, fun c3 => ?_, fun c3 => ?_⟩
            · have hB : (!liB cs q) = true := bI_true fun q => c3 (yb.trans q)
              have hB0 : liB cs q = false := by simpa using hB
              rw [hB0, if_neg (by decide)] at g5
              refine ⟨0, by rw [mw]; omega, liP cs q, true, 0, L, rfl, rfl, by rw [hB] at R13; exact R13, LA13, fh, fun _ => g5, fun q => absurd q (by decide)⟩
            · have hB : (!liB cs q) = false := bI0.mp (yb.symm.trans c3)
              have hB1 : liB cs q = true := by simpa using hB
              rw [hB1, if_pos rfl] at g5
              have bs := hB1
              unfold liB at bs
              simp only [Bool.and_eq_true] at bs
              obtain ⟨⟨⟨⟨⟨b1, b2⟩, b3⟩, b4⟩, b5⟩, b6⟩ := bs
              have s1 : t1S cs q = (q + 1, false) := by unfold t1S; rw [b1]; rfl
              have s2' : tkS cs 64 (t1S cs q) = (lM1 cs q, false) := by
                rw [s1]; unfold tkS; dsimp only
                rw [show decide (cur cs (skp cs (q + 1)) = 64) = true from b2, if_neg (by decide)]; rfl
              have s3 : coS cs (lM1 cs q, false) = (lM2 cs q, false) := by unfold coS; dsimp only; rw [show dgB cs (accP cs 45 (lM1 cs q)) = true from b3, if_neg (by decide)]; rfl
              have s4 : tkS cs 44 (lM2 cs q, false) = (lM3 cs q, false) := by unfold tkS; dsimp only; rw [show decide (cur cs (skp cs (lM2 cs q)) = 44) = true from b4, if_neg (by decide)]; rfl
              have ex : x4 = plV cs (lM1 cs q) := by
                have := q5.1
                rw [s2'] at this
                exact this rfl b3
              have ey : x9 = plV cs (lM3 cs q) := by
                have := q10.1
                rw [s2', s3, s4] at this
                exact this rfl b5
              have adv := li_adv hB1
              obtain ⟨v, v1, v2, v3, v4⟩ := LA13
              have hl13 : (zT y).2.2.2.2.2.2 = Int32.ofNat L.length := yl
              have i0 : (3 : Int32) * (zT y).2.2.2.2.2.2 = Int32.ofNat (3 * L.length) := by rw [hl13, Int32.ofNat_mul]; rfl
              have i1 : (3 : Int32) * (zT y).2.2.2.2.2.2 + 1 = Int32.ofNat (3 * L.length + 1) := by rw [i0, i32_s]
              have i2 : (3 : Int32) * (zT y).2.2.2.2.2.2 + 2 = Int32.ofNat (3 * L.length + 2) := by rw [i0, Int32.ofNat_add]; rfl
              have o1 := gsn (x := .inl (0, v.set (3 * L.length) (liS cs q))) (show 321 ≠ 313 by omega) H13.1
              have w1 := gs (x := .inl (0, v.set (3 * L.length) (liS cs q))) v1
              have o2 := gsn (x := .inl (0, (v.set (3 * L.length) (liS cs q)).set (3 * L.length + 1) x4)) (show 321 ≠ 313 by omega) o1
              have w2 := gs (x := .inl (0, (v.set (3 * L.length) (liS cs q)).set (3 * L.length + 1) x4)) w1
              have o3 := gsn (x := .inl (0, ((v.set (3 * L.length) (liS cs q)).set (3 * L.length + 1) x4).set (3 * L.length + 2) x9)) (show 321 ≠ 313 by omega) o2
              have w3 := gs (x := .inl (0, ((v.set (3 * L.length) (liS cs q)).set (3 * L.length + 1) x4).set (3 * L.length + 2) x9)) w2
              refine (rdP_iff H13.1).mpr ⟨_, rfl, (rdI_iff H13.1).mpr ⟨_, rfl, ?_⟩⟩
              rw [i0]
              refine ⟨_, _, rfl, v1, i32_nn (by omega), by rw [i32_n (by omega), v2]; omega, ?_⟩
              rw [i32_n (by omega)]
              refine (rdP_iff o1).mpr ⟨_, rfl, (rdI_iff o1).mpr ⟨_, rfl, ?_⟩⟩
              rw [i1]
              refine ⟨_, _, rfl, w1, i32_nn (by omega), by rw [i32_n (by omega), List.length_set, v2]; omega, ?_⟩
              rw [i32_n (by omega)]
              refine (rdP_iff o2).mpr ⟨_, rfl, (rdI_iff o2).mpr ⟨_, rfl, ?_⟩⟩
              rw [i2]
              refine ⟨_, _, rfl, w2, i32_nn (by omega), by rw [i32_n (by omega), List.length_set, List.length_set, v2]; omega, ?_⟩
              rw [i32_n (by omega)]
              have fr3 : Fr 321 322 h13 (((h13.set 321 (.inl (0, v.set (3 * L.length) (liS cs q)))).set 321 (.inl (0, (v.set (3 * L.length) (liS cs q)).set (3 * L.length + 1) x4))).set 321 (.inl (0, ((v.set (3 * L.length) (liS cs q)).set (3 * L.length + 1) x4).set (3 * L.length + 2) x9))) := ((Fr.set (by omega) (by omega)).trans (Fr.set (by omega) (by omega))).trans (Fr.set (by omega) (by omega))
              have H23 := H13.row321 fr3 ⟨_, w3, by rw [List.length_set, List.length_set, List.length_set]; exact v2⟩
              refine (rdI_iff o3).mpr ⟨_, rfl, (wr_iff o3).mpr ⟨Nat.le_of_ble_eq_true rfl, ?_⟩⟩
              have e3 : (zT y).2.2.2.2.2.2 + 1 = Int32.ofNat (L.length + 1) := by rw [hl13, i32_s]
              rw [e3]
              have H25 := H23.set (zU y ((zT y).1, (zT y).2.1, (zT y).2.2.1, (zT y).2.2.2.1, (zT y).2.2.2.2.1, (zT y).2.2.2.2.2.1, Int32.ofNat (L.length + 1)))
              have R25 : RdZ _ k (liP cs q) false (Int32.ofNat (L.length + 1)) := ⟨_, H25, ya, by rw [← hB]; exact yb, rfl, yp⟩
              obtain ⟨_, g25⟩ := R25.ad
              refine cvVq g25 (m11_skip T R25) fun h27 q27 => ?_
              have R27 := q27.1
              rw [if_neg (by decide)] at R27
              have hle : liP cs q ≤ cs.length := by
                have e : liP cs q = accP cs 59 (lM4 cs q) := by unfold liP; rw [b1, b2, b3, b4, b5]; rfl
                rw [e]
                have := cur_lt (cs := cs) (p := skp cs (lM4 cs q)) (by rw [of_decide_eq_true b6]; decide)
                unfold accP; rw [if_pos (of_decide_eq_true b6)]; omega
              refine ⟨200 - (L.length + 1), by rw [mw]; omega, skp cs (liP cs q), false, t, L ++ [liV cs q], by rw [if_neg (by decide), List.length_append]; rfl, rfl, by rw [List.length_append]; exact R27, ?_, (fh.trans (fr3.weak (by omega) (by omega))).trans ((fr313.weak (by omega) (by omega)).trans (q27.2.weak (by omega) (by omega))), fun q => absurd q (by decide), fun _ => ⟨skp_skp, ?_, skp_le hle, by rw [List.length_append, List.length_singleton]; omega, ?_⟩⟩
              · refine ⟨_, (q27.2.2 _ (by omega)).trans (gsn (by omega) w3), by rw [List.length_set, List.length_set, List.length_set]; exact v2, by rw [List.length_append, List.length_singleton]; omega, fun j hj => ?_⟩
                rw [List.length_append, List.length_singleton] at hj
                rw [getD_app]
                have l90 : ∀ (a : List Int32) (i : Nat) (x : Int32), (a.set i x).length = a.length := fun a i x => List.length_set ..
                by_cases cj : j < L.length
                · rw [if_pos cj, getD_set, getD_set, getD_set, getD_set, getD_set, getD_set, getD_set, getD_set, getD_set]
                  rw [if_neg (by omega), if_neg (by omega), if_neg (by omega), if_neg (by omega), if_neg (by omega), if_neg (by omega), if_neg (by omega), if_neg (by omega), if_neg (by omega)]
                  exact v4 j cj
                · have : j = L.length := by omega
                  subst this
                  rw [if_neg cj, if_pos rfl]
                  have a0 : ((((v.set (3 * L.length) (liS cs q)).set (3 * L.length + 1) x4).set (3 * L.length + 2) x9).getD (3 * L.length) 0) = liS cs q := by
                    rw [getD_set, getD_set, getD_set, if_neg (by omega), if_neg (by omega), if_pos ⟨rfl, by omega⟩]
                  have a1 : ((((v.set (3 * L.length) (liS cs q)).set (3 * L.length + 1) x4).set (3 * L.length + 2) x9).getD (3 * L.length + 1) 0) = x4 := by
                    rw [getD_set, getD_set, if_neg (by omega), if_pos ⟨rfl, by rw [l90]; omega⟩]
                  have a2 : ((((v.set (3 * L.length) (liS cs q)).set (3 * L.length + 1) x4).set (3 * L.length + 2) x9).getD (3 * L.length + 2) 0) = x9 := by
                    rw [getD_set, if_pos ⟨rfl, by rw [l90, l90]; omega⟩]
                  rw [a0, a1, a2, ex, ey]; rfl
              · have := skp_ge (cs := cs) (p := liP cs q)
                rw [List.length_append, List.length_singleton]; omega
              · rw [← g5]
                cases t with
                | zero => omega
                | succ t => exact lyGo_skp
          refine ⟨bI01, (wr_iff H'.1).mpr ⟨Nat.le_of_ble_eq_true rfl, (rdI_iff H1.1).mpr ⟨_, rfl, (rdI_iff H1.1).mpr ⟨_, rfl, fun c3 => ?_, fun c3 => ?_⟩⟩⟩⟩
          · have hv := bI0.mp c3
            have hB : lB1 cs q = true := by rw [hv] at ev; simpa using ev.symm
            have e1 : (t1S cs q).1 = q + 1 := by unfold t1S; rw [hB]; rfl
            exact go 1 (by rw [e1, ha, i32_s]) (by rw [e1]; omega)
          · have hv := bI_true c3
            have hB : lB1 cs q = false := by rw [hv] at ev; simpa using ev.symm
            have e1 : (t1S cs q).1 = q := by unfold t1S; rw [hB]; rfl
            exact go 0 (by rw [e1, ha, Int32.add_zero]) (by rw [e1]; omega)
        refine ⟨fun c3 => t58 false ?_, fun c3 => t58 true ?_⟩
        · rw [b1.mpr (ifC1 rfl c3)]; rfl
        · have : ¬ lB1 cs q = true := fun z => ifC0 rfl c3 (b1.mp z)
          simp [this]
end LL
