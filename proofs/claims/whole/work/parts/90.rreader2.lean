/-! the reference reads a shape, to its end; its text -/
noncomputable def rwGo (cs : List Int32) : Nat → Nat → SH → R3 SH
  | 0, p, S => shEnd cs p S
  | t + 1, p, S => if cur cs (skp cs p) = -1 then shEnd cs (skp cs p) S else if (pcGo cs 6 (skp cs p) []).1 = true then rwGo cs t (pcGo cs 6 (skp cs p) []).2.1 (S ++ [(pcGo cs 6 (skp cs p) []).2.2]) else (false, (pcGo cs 6 (skp cs p) []).2.1, S)
theorem rwGo_succ {cs : List Int32} {t p : Nat} {S : SH} : rwGo cs (t + 1) p S = if cur cs (skp cs p) = -1 then shEnd cs (skp cs p) S else if (pcGo cs 6 (skp cs p) []).1 = true then rwGo cs t (pcGo cs 6 (skp cs p) []).2.1 (S ++ [(pcGo cs 6 (skp cs p) []).2.2]) else (false, (pcGo cs 6 (skp cs p) []).2.1, S) := rfl
theorem shEnd_map {cs : List Int32} {p : Nat} {S : SH} : shEnd cs p (S.map rotP) = ((shEnd cs p S).1, (shEnd cs p S).2.1, (shEnd cs p S).2.2.map rotP) := by
  unfold shEnd
  simp
/-- the class keeps each piece from its lowest vertex on -/
theorem shGo_rw {cs : List Int32} : ∀ {t p : Nat} {S : SH}, shGo cs t p (S.map rotP) = ((rwGo cs t p S).1, (rwGo cs t p S).2.1, (rwGo cs t p S).2.2.map rotP) := fun {t} => by
  induction t with
  | zero => intro p S; exact shEnd_map
  | succ t ih =>
    intro p S
    rw [shGo_succ, rwGo_succ]
    by_cases c1 : cur cs (skp cs p) = -1
    · rw [if_pos c1, if_pos c1]; exact shEnd_map
    · rw [if_neg c1, if_neg c1]
      by_cases c2 : (pcGo cs 6 (skp cs p) []).1 = true
      · rw [if_pos c2, if_pos c2, ← ih, List.map_append]; rfl
      · rw [if_neg c2, if_neg c2]
theorem pcEnd_le {cs : List Int32} {p : Nat} {V : List PT} (h : (pcEnd cs p V).1 = true) : (pcEnd cs p V).2.1 ≤ cs.length := by
  unfold pcEnd at h ⊢
  by_cases c : cur cs (skp cs p) = 59
  · rw [if_pos c] at h ⊢
    by_cases c2 : cvxB V = true
    · rw [if_pos c2]
      have hlt := cur_lt (cs := cs) (p := skp cs p) (by rw [c]; decide)
      show accP cs 59 (skp cs p) ≤ _
      unfold accP
      rw [skp_skp, if_pos c]; omega
    · rw [if_neg c2] at h; exact absurd h Bool.false_ne_true
  · rw [if_neg c] at h; exact absurd h Bool.false_ne_true
theorem pcGo_le {cs : List Int32} : ∀ {t p : Nat} {V : List PT}, (pcGo cs t p V).1 = true → (pcGo cs t p V).2.1 ≤ cs.length := fun {t} => by
  induction t with
  | zero => intro p V h; exact pcEnd_le h
  | succ t ih =>
    intro p V h
    rw [pcGo_succ] at h ⊢
    by_cases c : cur cs (skp cs p) = 59
    · rw [if_pos c] at h ⊢; exact pcEnd_le h
    · rw [if_neg c] at h ⊢
      by_cases c2 : vxB cs (skp cs p) = true
      · rw [if_pos c2] at h ⊢; exact ih h
      · rw [if_neg c2] at h; exact absurd h Bool.false_ne_true
theorem rwGo_skp {cs : List Int32} {t p : Nat} {S : SH} : rwGo cs t (skp cs p) S = rwGo cs t p S := by
  cases t with
  | zero => exact shEnd_skp
  | succ t => simp only [rwGo_succ, skp_skp]
section RS2
variable {E : EV} {h : AH} {z : Sc} {k : MK} {cs : List Int32} {la : Int32}
theorem m11_readsShape (T : TxR k cs) (hcs : ∀ c, c ∈ cs → c ≠ -1) (H : MoZ h z k) : sX11_readsShape E [aP (some 313)] h (kI fun r h' => r = (if (rwGo cs 3 0 []).1 = true then 1 else 0) ∧ (∃ s' w', RdZ h' (s', k.2) (rwGo cs 3 0 []).2.1 w' (zT z).2.2.2.2.2.2 ∧ (∀ i, i < 500 → s'.getD i 0 = k.1.getD i 0) ∧ Blk (s', k.2) 500 (rwGo cs 3 0 []).2.2 ∧ (∀ V, V ∈ (rwGo cs 3 0 []).2.2 → SmV V ∧ cvxB V = true)) ∧ Fr 313 315 h h') := by
  have hn := T.2.1
  have cur_ne : ∀ q, q < cs.length → cur cs q ≠ -1 := fun q hq => by
    unfold cur; rw [if_pos hq]; exact hcs _ (getD_mem 0 hq)
  generalize hR : rwGo cs 3 0 [] = R
  refine uX11_readsShape (fun m h' l0 l1 => ∃ j s', m = 100 - j ∧ l0 = some 313 ∧ l1 = Int32.ofNat j ∧ j ≤ 40 ∧ MoZ h' z (s', k.2) ∧ (∀ i, i < 500 → s'.getD i 0 = k.1.getD i 0) ∧ (0 < j → sA (s', k.2) 500 = 0) ∧ Fr 313 315 h h') (fun m h' l0 => ∃ q w S s', m = (if w = true then 0 else 5 - S.length) ∧ l0 = some 313 ∧ RdZ h' (s', k.2) q w (zT z).2.2.2.2.2.2 ∧ (∀ i, i < 500 → s'.getD i 0 = k.1.getD i 0) ∧ Blk (s', k.2) 500 S ∧ (∀ V, V ∈ S → SmV V ∧ cvxB V = true) ∧ Fr 313 315 h h' ∧ (w = true → R = (false, q, S)) ∧ (w = false → skp cs q = q ∧ q ≤ cs.length ∧ (S = [] → q < cs.length) ∧ rwGo cs (3 - S.length) q S = R)) ?_ ?_ ?_
  · unfold PX11_readsShape_0
    exact ⟨100, 0, k.1, rfl, rfl, rfl, by omega, H, fun _ _ => rfl, fun q => absurd q (by omega), Fr.refl⟩
  · rintro m h' l0 l1 ⟨j, s', rfl, rfl, rfl, hj, H', hs, h0, f⟩
    have len : s'.length = 580 := H'.2.1.2
    unfold PX11_readsShape_2
    refine ⟨fun c => ?_, fun c => ?_⟩
    · have c := (i32_le (i := 40) (by omega) (by omega)).mp c
      have z0 := h0 (by omega)
      refine (wr_iff H'.1).mpr ⟨Nat.le_of_ble_eq_true rfl, (wr_iff (gs H'.1)).mpr ⟨Nat.le_of_ble_eq_true rfl, ?_⟩⟩
      rw [List.set_set]
      have R1 : RdZ (h'.set 313 (mob k.2.2.2.1 k.2.2.2.2 (zAt z 0 (bI false)))) (s', k.2) 0 false (zT z).2.2.2.2.2.2 := H'.rdz (k := (s', k.2)) 0 false (by omega) (a := 0) (b := bI false) rfl rfl rfl
      obtain ⟨_, g1⟩ := R1.ad
      refine cvVq g1 (m11_skip T.s R1) fun h4 q4 => ?_
      have R4 := q4.1
      rw [if_neg (by decide)] at R4
      obtain ⟨z4, H4, ha, hb, hl, hp⟩ := id R4
      have B0 : Blk (s', k.2) 500 [] := ⟨by omega, by simp, z0, fun p hp => absurd hp (by simp)⟩
      have hk : skp cs 0 ≤ cs.length := skp_le (by omega)
      have f4 : Fr 313 315 h h4 := f.trans ((fr313.trans q4.2).weak (by omega) (by omega))
      have hgo : rwGo cs (3 - ([] : SH).length) (skp cs 0) [] = R := by rw [rwGo_skp]; exact hR
      refine (rdI_iff H4.1).mpr ⟨_, rfl, (rdI_iff H4.1).mpr ⟨_, rfl, ?_⟩⟩
      rw [ha, show k.2.2.2.2 = Int32.ofNat cs.length from T.1]
      have go : ∀ w : Bool, (w = true → R = (false, skp cs 0, [])) → (w = false → skp cs 0 < cs.length) → PX11_readsShape_56 E (kI fun r h' => r = (if R.1 = true then 1 else 0) ∧ (∃ s' w', RdZ h' (s', k.2) R.2.1 w' (zT z).2.2.2.2.2.2 ∧ (∀ i, i < 500 → s'.getD i 0 = k.1.getD i 0) ∧ Blk (s', k.2) 500 R.2.2 ∧ (∀ V, V ∈ R.2.2 → SmV V ∧ cvxB V = true)) ∧ Fr 313 315 h h') (fun h' l0 => ∃ m', m' < 100 - j ∧ ∃ q w S s', m' = (if w = true then 0 else 5 - S.length) ∧ l0 = some 313 ∧ RdZ h' (s', k.2) q w (zT z).2.2.2.2.2.2 ∧ (∀ i, i < 500 → s'.getD i 0 = k.1.getD i 0) ∧ Blk (s', k.2) 500 S ∧ (∀ V, V ∈ S → SmV V ∧ cvxB V = true) ∧ Fr 313 315 h h' ∧ (w = true → R = (false, q, S)) ∧ (w = false → skp cs q = q ∧ q ≤ cs.length ∧ (S = [] → q < cs.length) ∧ rwGo cs (3 - S.length) q S = R)) h4 (some 313) (some 313) (bI w) := fun w w1 w2 => by
        unfold PX11_readsShape_56
        refine ⟨bI01, (wr_iff H4.1).mpr ⟨Nat.le_of_ble_eq_true rfl, if w = true then 0 else 5 - ([] : SH).length, by cases w <;> simp <;> omega, skp cs 0, w, [], s', rfl, rfl, ?_, hs, B0, fun V hV => by simp at hV, f4.trans (fr313.weak (by omega) (by omega)), w1, fun q => ⟨skp_skp, hk, fun _ => w2 q, hgo⟩⟩⟩
        exact H4.rdz (k := (s', k.2)) (skp cs 0) w hp (a := (zT z4).1) (b := bI w) ha rfl hl
      refine ⟨fun c5 => go false (fun q => absurd q (by decide)) fun _ => ?_, fun c5 => go true (fun _ => ?_) fun q => absurd q (by decide)⟩
      · have : skp cs 0 ≠ cs.length := fun q => c5 (by rw [q])
        omega
      · have e := i32_inj (by omega) (by omega) c5
        have ec : cur cs (skp cs 0) = -1 := by unfold cur; rw [if_neg (by omega)]
        rw [← hR, show (3 : Nat) = 2 + 1 from rfl, rwGo_succ, if_pos ec]
        unfold shEnd
        rw [skp_skp]
        simp
    · have c := mt (i32_le (i := 40) (j := j) (by omega) (by omega)).mpr c
      refine (rdP_iff H'.1).mpr ⟨_, rfl, ?_⟩
      rw [show (500 : Int32) + Int32.ofNat j = Int32.ofNat (500 + j) by rw [Int32.ofNat_add]; rfl]
      refine H'.st (by omega) ⟨_, by omega, j + 1, _, rfl, rfl, i32_s _, by omega, H'.set1 _ _, fun i hi => ?_, fun _ => ?_, f.trans fr314⟩
      · exact ((sA_set (k := (s', k.2)) (j := i) len (by omega)).trans (if_neg (by omega))).trans (hs i hi)
      · rw [sA_set (k := (s', k.2)) len (by omega)]
        split
        · rfl
        · rename_i q; exact h0 (by omega)
  · rintro m h' l0 ⟨q, w, S, s', rfl, rfl, R1, hs, BS, hS, f, c1, c2⟩
    obtain ⟨z', H', ha, hb, hl, hp⟩ := id R1
    have len : s'.length = 580 := H'.2.1.2
    unfold PX11_readsShape_59
    refine (rdI_iff H'.1).mpr ⟨_, rfl, fun c => ?_, fun c => (rdI_iff H'.1).mpr ⟨_, rfl, (rdI_iff H'.1).mpr ⟨_, rfl, ?_⟩⟩⟩
    · have w1 := bI_true fun q => c (hb.trans q)
      have eR := c1 w1
      unfold PX11_readsShape_123
      exact (rdI_iff H'.1).mpr ⟨_, rfl, fun _ => ⟨_, rfl, by rw [eR]; rfl, ⟨s', w, by rw [eR]; exact R1, hs, by rw [eR]; exact BS, by rw [eR]; exact hS⟩, f⟩, fun c2 => absurd c2 c⟩
    · have w0 := bI0.mp (hb.symm.trans c)
      subst w0
      obtain ⟨g1, g2, g3, g4⟩ := c2 rfl
      rw [ha, show k.2.2.2.2 = Int32.ofNat cs.length from T.1]
      have hS3 := BS.2.1
      have hpos := (show (if false = true then 0 else 5 - S.length) = 5 - S.length from rfl)
      refine ⟨fun cl => ?_, fun cl => ?_⟩
      · have := (i32_le (by omega) (by omega)).mp cl
        have ec : cur cs q = -1 := by unfold cur; rw [if_neg (by omega)]
        have hne : S ≠ [] := fun e => by have := g3 e; omega
        have eR : R = (true, q, S) := by
          have es : shEnd cs q S = (true, q, S) := by
            unfold shEnd; rw [g1, ec]; simp [hne]
          rw [← g4]
          cases e : 3 - S.length with
          | zero => exact es
          | succ t => rw [rwGo_succ, g1, if_pos ec]; exact es
        unfold PX11_readsShape_123
        exact (rdI_iff H'.1).mpr ⟨_, rfl, fun c3 => absurd c c3, fun _ => ⟨_, rfl, by rw [eR]; rfl, ⟨s', false, by rw [eR]; exact R1, hs, by rw [eR]; exact BS, by rw [eR]; exact hS⟩, f⟩⟩
      · have hlt : q < cs.length := by have := mt (i32_le (i := cs.length) (j := q) (by omega) (by omega)).mpr cl; omega
        have ec := cur_ne q hlt
        refine (rdP_iff H'.1).mpr ⟨_, rfl, H'.ld (i := 500) (by omega) ?_⟩
        rw [BS.2.2.1]
        refine ⟨fun c3 => ?_, fun c3 => ?_⟩
        · have n3 : S.length < 3 := by
            have : S.length ≠ 3 := fun q => c3 (by rw [q]; rfl)
            omega
          unfold PX11_readsShape_95
          have H4 := H'.set (zAt z' (zT z').1 (bI false))
          have R4 : RdZ _ (s', k.2) q false (zT z).2.2.2.2.2.2 := H'.rdz (k := (s', k.2)) q false hp (a := (zT z').1) (b := bI false) ha rfl hl
          refine ⟨Or.inl rfl, (wr_iff H'.1).mpr ⟨Nat.le_of_ble_eq_true rfl, (rdI_iff H4.1).mpr ⟨_, rfl, fun q => absurd rfl q, fun _ => ?_⟩⟩⟩
          refine cvVq H4.1 (m11_readsPiece T.s R4 BS n3) fun h6 q6 => ?_
          obtain ⟨s6, R6, hs6, B6, ⟨sm6, cv6⟩, f6⟩ := q6
          have fh : Fr 313 315 h h6 := f.trans ((fr313.weak (by omega) (by omega)).trans f6)
          have hs' : ∀ i, i < 500 → s6.getD i 0 = k.1.getD i 0 := fun i hi => (hs6 i hi).trans (hs i hi)
          obtain ⟨z6, H6, ha6, hb6, hl6, hp6⟩ := id R6
          obtain ⟨t, ht⟩ : ∃ t, 3 - S.length = t + 1 := ⟨2 - S.length, by omega⟩
          rw [ht, rwGo_succ, g1, if_neg ec] at g4
          unfold PX11_readsShape_109
          refine (rdI_iff H6.1).mpr ⟨_, rfl, fun c7 => ?_, fun c7 => ?_⟩
          · have hB : (!(pcGo cs 6 q []).1) = true := bI_true fun q => c7 (hb6.trans q)
            have hB0 : (pcGo cs 6 q []).1 = false := by simpa using hB
            rw [hB0, if_neg (by decide)] at g4
            rw [hB0, if_neg (by decide)] at B6
            rw [hB] at R6
            exact ⟨0, by rw [hpos]; omega, _, true, S, s6, rfl, rfl, R6, hs', B6, hS, fh, fun _ => g4.symm, fun q => absurd q (by decide)⟩
          · have hB : (!(pcGo cs 6 q []).1) = false := bI0.mp (hb6.symm.trans c7)
            have hB1 : (pcGo cs 6 q []).1 = true := by simpa using hB
            rw [hB1, if_pos rfl] at g4
            rw [hB1, if_pos rfl] at B6
            rw [hB] at R6
            refine cvVq H6.1 (m11_skip T.s R6) fun h9 q9 => ?_
            have R9 := q9.1
            rw [if_neg (by decide)] at R9
            have hq6 : (pcGo cs 6 q []).2.1 ≤ cs.length := pcGo_le hB1
            refine ⟨5 - (S ++ [(pcGo cs 6 q []).2.2]).length, by rw [hpos, List.length_append, List.length_singleton]; omega, skp cs (pcGo cs 6 q []).2.1, false, S ++ [(pcGo cs 6 q []).2.2], s6, rfl, rfl, R9, hs', B6, ?_, fh.trans (q9.2.weak (by omega) (by omega)), fun q => absurd q (by decide), fun _ => ⟨skp_skp, skp_le hq6, fun e => by simp at e, ?_⟩⟩
            · intro V hV
              rcases List.mem_append.mp hV with hV | hV
              · exact hS V hV
              · rw [List.mem_singleton.mp hV]; exact ⟨sm6, cv6 hB1⟩
            · rw [rwGo_skp, ← g4, List.length_append, List.length_singleton]
              congr 1; omega
        · have n3 : S.length = 3 := i32_inj (n := 3) (by omega) (by omega) c3
          have eR : R = (false, q, S) := by
            rw [n3] at g4
            rw [← g4]; show shEnd cs q S = _
            unfold shEnd; rw [g1]; simp [ec]
          unfold PX11_readsShape_95
          have H4 := H'.set (zAt z' (zT z').1 (bI true))
          have R4 : RdZ _ (s', k.2) q true (zT z).2.2.2.2.2.2 := H'.rdz (k := (s', k.2)) q true hp (a := (zT z').1) (b := bI true) ha rfl hl
          refine ⟨Or.inr rfl, (wr_iff H'.1).mpr ⟨Nat.le_of_ble_eq_true rfl, (rdI_iff H4.1).mpr ⟨_, rfl, fun _ => ?_, fun q => absurd (show (1 : Int32) = 0 from q) (by decide)⟩⟩⟩
          unfold PX11_readsShape_109
          exact (rdI_iff H4.1).mpr ⟨_, rfl, fun _ => ⟨0, by rw [hpos]; omega, q, true, S, s', rfl, rfl, R4, hs, BS, hS, f.trans (fr313.weak (by omega) (by omega)), fun _ => eR, fun q => absurd q (by decide)⟩, fun q => absurd (show (1 : Int32) = 0 from q) (by decide)⟩
theorem byte_fin : ∀ n : Fin 256, (Int32.ofNat n.1).toInt8.toInt32.toInt8.toInt32 &&& 255 = Int32.ofNat n.1 := by decide +kernel
theorem byte_eq {c : Int32} (h0 : ¬ c < 0) (h1 : c ≤ 255) : c.toInt8.toInt32.toInt8.toInt32 &&& 255 = c := by
  obtain ⟨n, rfl, hn, -⟩ := i32_of (i32_not_lt.mp h0)
  have : n ≤ 255 := (i32_le (j := 255) hn (by omega)).mp h1
  exact byte_fin ⟨n, by omega⟩
/-- the text's own calls -/
def kTx (k : MK) (t : List Int32) (n : Int32) : MK := (k.1, k.2.1, t, k.2.2.2.1, n)
theorem m11_appendCharacter (H : MoZ h z k) (T : TxR k cs) (c : Int32) : sX11_appendCharacter E [aP (some 313), aI c] h (kI fun r h' => r = (cAppend cs c).1 ∧ ∃ t, MoZ h' z (kTx k t (Int32.ofNat (cAppend cs c).2.length)) ∧ TxR (kTx k t (Int32.ofNat (cAppend cs c).2.length)) (cAppend cs c).2 ∧ Fr 313 323 h h') := by
  refine eX11_appendCharacter ?_
  unfold PX11_appendCharacter_0
  obtain ⟨T1, T2, T3⟩ := id T
  have ek : kTx k k.2.2.1 (Int32.ofNat cs.length) = k := by unfold kTx; rw [← T1]
  refine csI (m11_in c 0 255) ⟨fun c1 => ?_, fun c1 => ?_⟩
  · have i1 := ifC1 rfl c1
    refine (rdI_iff H.1).mpr ⟨_, rfl, ?_⟩
    rw [show k.2.2.2.2 = Int32.ofNat cs.length from T1]
    refine ⟨fun c2 => ?_, fun c2 => ?_⟩
    · have hn : cs.length < 150 := by
        have : cs.length ≠ 150 := fun q => c2 (by rw [q]; rfl)
        omega
      refine (rdP_iff H.1).mpr ⟨_, rfl, (rdI_iff H.1).mpr ⟨_, rfl, ?_⟩⟩
      rw [show k.2.2.2.2 = Int32.ofNat cs.length from T1]
      have i2 : c ≤ 255 := i32_not_lt.mp i1.2
      have ea : cAppend cs c = (Int32.ofNat (cs.length + 1), cs ++ [c]) := by
        unfold cAppend; rw [ifC_pos ⟨i1.1, i2⟩, if_pos hn]
      obtain ⟨h0, h1, h2, h3, h4, h5, h6, h7, h8, h9⟩ := id H
      refine ⟨_, _, rfl, h3.1, i32_nn (by omega), by rw [i32_n (by omega), h3.2]; exact hn, ?_⟩
      rw [i32_n (by omega)]
      have g := gsn (x := .inl (1, k.2.2.1.set cs.length c.toInt8.toInt32.toInt8.toInt32)) (show 316 ≠ 313 by omega) h0
      refine (rdI_iff g).mpr ⟨_, rfl, (wr_iff g).mpr ⟨Nat.le_of_ble_eq_true rfl, ?_⟩⟩
      refine (rdI_iff (gs g)).mpr ⟨_, rfl, ?_⟩
      rw [ea, show k.2.2.2.2 = Int32.ofNat cs.length from T1]
      have e1 : Int32.ofNat cs.length + 1 = Int32.ofNat (cs.length + 1) := i32_s _
      rw [e1]
      have el : (cs ++ [c]).length = cs.length + 1 := by rw [List.length_append]; rfl
      have f : Fr 313 323 h ((h.set 316 (.inl (1, k.2.2.1.set cs.length c.toInt8.toInt32.toInt8.toInt32))).set 313 (mob k.2.2.2.1 (Int32.ofNat (cs.length + 1)) z)) := (Fr.set (by omega) (by omega)).trans (Fr.set (by omega) (by omega))
      refine ⟨_, rfl, rfl, k.2.2.1.set cs.length c.toInt8.toInt32.toInt8.toInt32, ?_, ⟨rfl, by rw [el]; omega, fun j hj => ?_⟩, f⟩
      · rw [el]
        have f1 : Fr 316 317 h (h.set 316 (.inl (1, k.2.2.1.set cs.length c.toInt8.toInt32.toInt8.toInt32))) := Fr.set (by omega) (by omega)
        have f2 : Fr 313 314 (h.set 316 (.inl (1, k.2.2.1.set cs.length c.toInt8.toInt32.toInt8.toInt32))) ((h.set 316 (.inl (1, k.2.2.1.set cs.length c.toInt8.toInt32.toInt8.toInt32))).set 313 (mob k.2.2.2.1 (Int32.ofNat (cs.length + 1)) z)) := Fr.set (by omega) (by omega)
        exact ⟨gs g, ⟨(f2.2 _ (by omega)).trans ((f1.2 _ (by omega)).trans h1.1), h1.2⟩, ⟨(f2.2 _ (by omega)).trans ((f1.2 _ (by omega)).trans h2.1), h2.2⟩, ⟨(f2.2 _ (by omega)).trans (gs h3.1), (List.length_set ..).trans h3.2⟩, (h4.fr f1 (by omega)).fr f2 (by omega), (h5.fr f1 (by omega)).fr f2 (by omega), (h6.fr f1 (by omega)).fr f2 (by omega), (h7.fr f1 (by omega)).fr f2 (by omega), (h8.fr f1 (by omega)).fr f2 (by omega), (h9.fr f1 (by omega)).fr f2 (by omega)⟩
      · rw [el] at hj
        rw [getD_app]
        show (k.2.2.1.set cs.length c.toInt8.toInt32.toInt8.toInt32).getD j 0 &&& 255 = _
        rw [getD_set]
        by_cases cj : j < cs.length
        · rw [if_neg (by omega), if_pos cj]; exact T3 j cj
        · have : j = cs.length := by omega
          subst this
          rw [if_pos ⟨rfl, by rw [h3.2]; exact hn⟩, if_neg cj, if_pos rfl]
          exact byte_eq i1.1 i2
    · have e := i32_inj (n := 150) (by omega) (by omega) c2
      have ea : cAppend cs c = (-1000003, cs) := by
        unfold cAppend; rw [ifC_pos ⟨i1.1, i32_not_lt.mp i1.2⟩, if_neg (by omega)]
      rw [ea]
      exact ⟨_, rfl, rfl, k.2.2.1, by rw [ek]; exact H, by rw [ek]; exact T, Fr.refl⟩
  · have i0 := ifC0 rfl c1
    have ea : cAppend cs c = (-1000001, cs) := by
      unfold cAppend; rw [ifC_neg fun q => i0 ⟨q.1, i32_not_lt.mpr q.2⟩]
    rw [ea]
    exact ⟨_, rfl, rfl, k.2.2.1, by rw [ek]; exact H, by rw [ek]; exact T, Fr.refl⟩
theorem m11_clearText (H : MoZ h z k) (T : TxR k cs) : sX11_clearText E [aP (some 313)] h (kI fun r h' => r = Int32.ofNat cs.length ∧ MoZ h' z (kTx k k.2.2.1 0) ∧ TxR (kTx k k.2.2.1 0) [] ∧ Fr 313 323 h h') := by
  refine eX11_clearText ?_
  unfold PX11_clearText_0
  refine (rdI_iff H.1).mpr ⟨_, rfl, (wr_iff H.1).mpr ⟨Nat.le_of_ble_eq_true rfl, _, rfl, T.1, ?_, ⟨rfl, by simp, fun j hj => absurd hj (by simp)⟩, fr313.weak (by omega) (by omega)⟩⟩
  obtain ⟨h0, h1, h2, h3, h4, h5, h6, h7, h8, h9⟩ := H
  have f : Fr 313 314 h (h.set 313 (mob k.2.2.2.1 0 z)) := fr313
  exact ⟨gs h0, ⟨(f.2 _ (by omega)).trans h1.1, h1.2⟩, ⟨(f.2 _ (by omega)).trans h2.1, h2.2⟩, ⟨(f.2 _ (by omega)).trans h3.1, h3.2⟩, h4.fr f (by omega), h5.fr f (by omega), h6.fr f (by omega), h7.fr f (by omega), h8.fr f (by omega), h9.fr f (by omega)⟩
end RS2
