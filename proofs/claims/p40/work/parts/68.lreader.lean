/-! a layout is read from the text -/
abbrev LI : Type := Int32 × Int32 × Int32
def LyO (h : AH) (c : Nat) (L : List LI) : Prop := ∃ sl xs ys, h[c]? = some (.inr (2, [aP (some (c + 1)), aP (some (c + 2)), aP (some (c + 3)), aI (Int32.ofNat L.length)])) ∧ (h[c + 1]? = some (.inl (0, sl)) ∧ sl.length = 8) ∧ (h[c + 2]? = some (.inl (0, xs)) ∧ xs.length = 8) ∧ (h[c + 3]? = some (.inl (0, ys)) ∧ ys.length = 8) ∧ L.length ≤ 1000 ∧ ∀ j, j < L.length → j < 8 → (sl.getD j 0, xs.getD j 0, ys.getD j 0) = L.getD j (0, 0, 0)
theorem LyO.same {h h' : AH} {c : Nat} {L : List LI} (H : LyO h c L) (s : ∀ q, c ≤ q → q < c + 4 → h'[q]? = h[q]?) : LyO h' c L := by
  obtain ⟨sl, xs, ys, h1, h2, h3, h4, h5⟩ := H
  exact ⟨sl, xs, ys, (s _ (by omega) (by omega)).trans h1, ⟨(s _ (by omega) (by omega)).trans h2.1, h2.2⟩, ⟨(s _ (by omega) (by omega)).trans h3.1, h3.2⟩, ⟨(s _ (by omega) (by omega)).trans h4.1, h4.2⟩, h5⟩
theorem LyO.fr {h h' : AH} {c lo hi : Nat} {L : List LI} (H : LyO h c L) (r : Fr lo hi h h') (d : c + 4 ≤ lo ∨ hi ≤ c) : LyO h' c L := H.same fun q h1 h2 => r.2 q (by omega)
theorem LyO.ad {h : AH} {c : Nat} {L : List LI} (H : LyO h c L) : h[c]? = some (.inr (2, [aP (some (c + 1)), aP (some (c + 2)), aP (some (c + 3)), aI (Int32.ofNat L.length)])) := by
  obtain ⟨sl, xs, ys, h1, -⟩ := H
  exact h1
theorem LyO.len {h : AH} {c : Nat} {L : List LI} (H : LyO h c L) : L.length ≤ 1000 := by
  obtain ⟨sl, xs, ys, h1, h2, h3, h4, h5, -⟩ := H
  exact h5
def Sp (t c : Nat) (h h' : AH) : Prop := h'.length = h.length ∧ ∀ q, q ≠ t → (q < c ∨ c + 4 ≤ q) → h'[q]? = h[q]?
theorem Sp.refl {t c : Nat} {h : AH} : Sp t c h h := ⟨rfl, fun _ _ _ => rfl⟩
theorem Sp.trans {t c : Nat} {h h1 h2 : AH} (f : Sp t c h h1) (g : Sp t c h1 h2) : Sp t c h h2 := ⟨g.1.trans f.1, fun q h1 h2 => (g.2 q h1 h2).trans (f.2 q h1 h2)⟩
theorem Fr.spt {t c : Nat} {h h' : AH} (f : Fr t (t + 1) h h') : Sp t c h h' := ⟨f.1, fun q h1 h2 => f.2 q (by omega)⟩
theorem Fr.spc {t c : Nat} {h h' : AH} (f : Fr c (c + 4) h h') : Sp t c h h' := ⟨f.1, fun q h1 h2 => f.2 q h2⟩
def liS (cs : List Int32) (p : Nat) : Int32 := cur cs p - 48
def lM1 (cs : List Int32) (p : Nat) : Nat := accP cs 64 (p + 1)
def lM2 (cs : List Int32) (p : Nat) : Nat := plQ cs (lM1 cs p)
def lM3 (cs : List Int32) (p : Nat) : Nat := accP cs 44 (lM2 cs p)
def lM4 (cs : List Int32) (p : Nat) : Nat := plQ cs (lM3 cs p)
def lB1 (cs : List Int32) (p : Nat) : Bool := decide (¬ liS cs p < 0 ∧ liS cs p < 4)
def lB2 (cs : List Int32) (p : Nat) : Bool := decide (cur cs (skp cs (p + 1)) = 64)
def lB3 (cs : List Int32) (p : Nat) : Bool := dgB cs (accP cs 45 (lM1 cs p))
def lB4 (cs : List Int32) (p : Nat) : Bool := decide (cur cs (skp cs (lM2 cs p)) = 44)
def lB5 (cs : List Int32) (p : Nat) : Bool := dgB cs (accP cs 45 (lM3 cs p))
def lB6 (cs : List Int32) (p : Nat) : Bool := decide (cur cs (skp cs (lM4 cs p)) = 59)
def liB (cs : List Int32) (p : Nat) : Bool := lB1 cs p && lB2 cs p && lB3 cs p && lB4 cs p && lB5 cs p && lB6 cs p
def liP (cs : List Int32) (p : Nat) : Nat := if lB1 cs p = false then p else if lB2 cs p = false then lM1 cs p else if lB3 cs p = false then lM2 cs p else if lB4 cs p = false then lM3 cs p else if lB5 cs p = false then lM4 cs p else accP cs 59 (lM4 cs p)
def liV (cs : List Int32) (p : Nat) : LI := (liS cs p, plV cs (lM1 cs p), plV cs (lM3 cs p))
def lyEnd (cs : List Int32) (p : Nat) (L : List LI) : R3 (List LI) := (decide (cur cs (skp cs p) = -1), skp cs p, L)
def lyGo (cs : List Int32) : Nat → Nat → List LI → R3 (List LI)
  | 0, p, L => lyEnd cs p L
  | t + 1, p, L => if cur cs (skp cs p) = -1 then lyEnd cs (skp cs p) L else if liB cs (skp cs p) = true then lyGo cs t (liP cs (skp cs p)) (L ++ [liV cs (skp cs p)]) else (false, liP cs (skp cs p), L)
theorem lyGo_succ {cs : List Int32} {t p : Nat} {L : List LI} : lyGo cs (t + 1) p L = if cur cs (skp cs p) = -1 then lyEnd cs (skp cs p) L else if liB cs (skp cs p) = true then lyGo cs t (liP cs (skp cs p)) (L ++ [liV cs (skp cs p)]) else (false, liP cs (skp cs p), L) := rfl
def lyR (cs : List Int32) : R3 (List LI) := lyGo cs 150 0 []
section LR
variable {E : EV} {h : AH} {t c p : Nat} {cs : List Int32} {num : Int32} {L : List LI}
theorem keep73 {fs : List AV} {post : Option AV → AH → Prop} {n : Int32} (H : h[c]? = some (.inr (2, fs))) (h3 : fs[3]? = some (aI n)) (k : post none (h.set c (.inr (2, fs.set 3 (aI (n + 1)))))) : PX2_keep_73 E post h (some c) := by
  unfold PX2_keep_73
  exact (rdI_iff H).mpr ⟨_, h3, (wr_iff H).mpr ⟨(List.getElem?_eq_some_iff.mp h3).1, k⟩⟩
theorem s2_keep (H : LyO h c L) (hl : L.length < 1000) (v : LI) : sX2_keep E [aP (some c), aI v.1, aI v.2.1, aI v.2.2] h (kV fun h' => LyO h' c (L ++ [v]) ∧ Fr c (c + 4) h h') := by
  obtain ⟨sl, xs, ys, h1, h2, h3, h4, h5, h6⟩ := H
  refine eX2_keep ?_
  unfold PX2_keep_0
  have full : ¬ L.length < 8 → PX2_keep_73 E (kV fun h' => LyO h' c (L ++ [v]) ∧ Fr c (c + 4) h h') h (some c) := fun q => keep73 h1 rfl
    ⟨rfl, ⟨sl, xs, ys, by rw [gs h1, List.length_append, List.length_singleton, ← i32_s]; rfl, ⟨gsn (by omega) h2.1, h2.2⟩, ⟨gsn (by omega) h3.1, h3.2⟩, ⟨gsn (by omega) h4.1, h4.2⟩, by rw [List.length_append, List.length_singleton]; omega, fun j hj h8 => by
      rw [getD_app, if_pos (by omega)]; exact h6 j (by omega) h8⟩, Fr.set (Nat.le_refl c) (by omega)⟩
  refine (rdI_iff h1).mpr ⟨_, rfl, fun c => absurd c (i32_nn (by omega)), fun _ => (rdI_iff h1).mpr ⟨_, rfl, (rdP_iff h1).mpr ⟨_, rfl, (alenI_iff h2.1).mpr ?_⟩⟩⟩
  rw [h2.2]
  refine ⟨fun q => full (by have := (i32_le (i := 8) (by omega) (by omega)).mp q; omega), fun q => (rdI_iff h1).mpr ⟨_, rfl, (rdP_iff h1).mpr ⟨_, rfl, (alenI_iff h3.1).mpr ?_⟩⟩⟩
  have h8 : L.length < 8 := by have := mt (i32_le (i := 8) (j := L.length) (by omega) (by omega)).mpr q; omega
  rw [h3.2]
  refine ⟨fun z => absurd z q, fun _ => (rdI_iff h1).mpr ⟨_, rfl, (rdP_iff h1).mpr ⟨_, rfl, (alenI_iff h4.1).mpr ?_⟩⟩⟩
  rw [h4.2]
  refine ⟨fun z => absurd z q, fun _ => (rdP_iff h1).mpr ⟨_, rfl, (rdI_iff h1).mpr ⟨_, rfl, ⟨_, _, rfl, h2.1, i32_nn (by omega), by rw [i32_n (by omega), h2.2]; exact h8, ?_⟩⟩⟩⟩
  rw [i32_n (by omega)]
  have g1 := gsn (x := .inl (0, sl.set L.length v.1)) (show c + 1 ≠ c by omega) h1
  have g3 := gsn (x := .inl (0, sl.set L.length v.1)) (show c + 1 ≠ c + 2 by omega) h3.1
  refine (rdP_iff g1).mpr ⟨_, rfl, (rdI_iff g1).mpr ⟨_, rfl, ⟨_, _, rfl, g3, i32_nn (by omega), by rw [i32_n (by omega), h3.2]; exact h8, ?_⟩⟩⟩
  rw [i32_n (by omega)]
  have k1 := gsn (x := .inl (0, xs.set L.length v.2.1)) (show c + 2 ≠ c by omega) g1
  have k4 := gsn (x := .inl (0, xs.set L.length v.2.1)) (show c + 2 ≠ c + 3 by omega) (gsn (x := .inl (0, sl.set L.length v.1)) (show c + 1 ≠ c + 3 by omega) h4.1)
  refine (rdP_iff k1).mpr ⟨_, rfl, (rdI_iff k1).mpr ⟨_, rfl, ⟨_, _, rfl, k4, i32_nn (by omega), by rw [i32_n (by omega), h4.2]; exact h8, ?_⟩⟩⟩
  rw [i32_n (by omega)]
  refine keep73 (gsn (by omega) k1) rfl ⟨rfl, ⟨_, _, _, ?_, ⟨gsn (by omega) (gsn (by omega) (gsn (by omega) (gs h2.1))), ?_⟩, ⟨gsn (by omega) (gsn (by omega) (gs g3)), ?_⟩, ⟨gsn (by omega) (gs k4), ?_⟩, ?_, fun j hj hj8 => ?_⟩, (((Fr.set (by omega) (by omega)).trans (Fr.set (by omega) (by omega))).trans (Fr.set (by omega) (by omega))).trans (Fr.set (Nat.le_refl c) (by omega))⟩
  · rw [gs (gsn (by omega) k1), List.length_append, List.length_singleton, ← i32_s]; rfl
  · rw [List.length_set]; exact h2.2
  · rw [List.length_set]; exact h3.2
  · rw [List.length_set]; exact h4.2
  · rw [List.length_append, List.length_singleton]; omega
  · rw [List.length_append, List.length_singleton] at hj
    rw [getD_set, getD_set, getD_set, getD_app, h2.2, h3.2, h4.2]
    by_cases q : j < L.length
    · rw [if_pos q, if_neg (by omega), if_neg (by omega), if_neg (by omega)]; exact h6 j q hj8
    · have : j = L.length := by omega
      subst this
      rw [if_pos ⟨rfl, by omega⟩, if_pos ⟨rfl, by omega⟩, if_pos ⟨rfl, by omega⟩, if_neg q, if_pos rfl]
theorem s2_item (T : TxO h t cs p num) (H : LyO h c L) (hl : L.length < 1000) (d : t + 2 ≤ c ∨ c + 4 ≤ t) : sX2_readItem E [aP (some c), aP (some t)] h (kI fun r h' => r = (if liB cs p = true then 1 else 0) ∧ (∃ n', TxO h' t cs (liP cs p) n') ∧ LyO h' c (if liB cs p = true then L ++ [liV cs p] else L) ∧ Sp t c h h') := by
  refine eX2_readItem ?_
  unfold PX2_readItem_0
  refine cvI T.ad (s9_current T) fun v3 e3 => ?_
  have eS : v3 = liS cs p := e3
  subst eS
  have no : ∀ h2 n2, liB cs p = false → TxO h2 t cs (liP cs p) n2 → Fr t (t + 1) h h2 → kI (fun r h' => r = (if liB cs p = true then 1 else 0) ∧ (∃ n', TxO h' t cs (liP cs p) n') ∧ LyO h' c (if liB cs p = true then L ++ [liV cs p] else L) ∧ Sp t c h h') (some (aI 0)) h2 := fun h2 n2 e T2 f2 => by
    refine ⟨_, rfl, by rw [e]; rfl, ⟨n2, T2⟩, ?_, f2.spt⟩
    rw [e, if_neg (by decide)]; exact H.fr f2 (by omega)
  refine ⟨fun c1 => ?_, fun c1 => ⟨fun c2 => ?_, fun c2 => ?_⟩⟩
  · have b1 : lB1 cs p = false := by unfold lB1; simp [c1]
    exact no h num (by unfold liB; rw [b1]; rfl) (by unfold liP; rw [if_pos b1]; exact T) Fr.refl
  · have b1 : lB1 cs p = true := by unfold lB1; simp [c1, c2]
    have hp : p < cs.length := cur_lt fun q => by
      unfold liS at c1
      rw [q] at c1; exact c1 (by decide)
    have hlen := T.len
    have T1 := T.pos (q := p + 1) (by omega)
    have f1 : Fr t (t + 1) h _ := Fr.set (x := .inr (9, [aP (some (t + 1)), aI (Int32.ofNat cs.length), aI (Int32.ofNat (p + 1)), aI num])) (Nat.le_refl t) (Nat.lt_succ_self t)
    refine (rdI_iff T.ad).mpr ⟨_, rfl, (wr_iff T.ad).mpr ⟨Nat.le_of_ble_eq_true rfl, ?_⟩⟩
    rw [i32_s]
    refine cvIq T1.ad (s9_accept T1 (by decide)) fun r6 h7 q7 => ⟨fun c6 => ?_, fun c6 => ?_⟩
    · have b2 : lB2 cs p = false := by unfold lB2; simp [r00 q7.1 c6]
      exact no h7 num (by unfold liB; rw [b2]; simp) (by unfold liP; rw [if_neg (by rw [b1]; decide), if_pos b2]; exact q7.2.1) (f1.trans q7.2.2)
    · have b2 : lB2 cs p = true := by unfold lB2; simp [r01 q7.1 c6]
      have T7 : TxO h7 t cs (lM1 cs p) num := q7.2.1
      have f7 := f1.trans q7.2.2
      refine cvIq T7.ad (s9_place T7) fun r8 h9 q9 => ⟨fun c8 => ?_, fun c8 => ?_⟩
      · have b3 : lB3 cs p = true := r01 q9.1 c8
        obtain ⟨v9, T9, e9⟩ := q9.2.1
        have e9 := e9 b3
        have T9 : TxO h9 t cs (lM2 cs p) v9 := T9
        have f9 := f7.trans q9.2.2
        refine (rdI_iff T9.ad).mpr ⟨_, rfl, cvIq T9.ad (s9_accept T9 (by decide)) fun r12 h13 q13 => ⟨fun c12 => ?_, fun c12 => ?_⟩⟩
        · have b4 : lB4 cs p = false := by unfold lB4; simp [r00 q13.1 c12]
          exact no h13 _ (by unfold liB; rw [b4]; simp) (by unfold liP; rw [if_neg (by rw [b1]; decide), if_neg (by rw [b2]; decide), if_neg (by rw [b3]; decide), if_pos b4]; exact q13.2.1) (f9.trans q13.2.2)
        · have b4 : lB4 cs p = true := by unfold lB4; simp [r01 q13.1 c12]
          have T13 : TxO h13 t cs (lM3 cs p) v9 := q13.2.1
          have f13 := f9.trans q13.2.2
          refine cvIq T13.ad (s9_place T13) fun r14 h15 q15 => ⟨fun c14 => ?_, fun c14 => ?_⟩
          · have b5 : lB5 cs p = true := r01 q15.1 c14
            obtain ⟨v15, T15, e15⟩ := q15.2.1
            have e15 := e15 b5
            have T15 : TxO h15 t cs (lM4 cs p) v15 := T15
            have f15 := f13.trans q15.2.2
            refine cvIq T15.ad (s9_accept T15 (by decide)) fun r16 h17 q17 => ⟨fun c16 => ?_, fun c16 => ?_⟩
            · have b6 : lB6 cs p = true := by unfold lB6; simp [r01 q17.1 c16]
              have T17 := q17.2.1
              have f17 := f15.trans q17.2.2
              have H17 := H.fr f17 (by omega)
              have eB : liB cs p = true := by unfold liB; rw [b1, b2, b3, b4, b5, b6]; rfl
              refine (rdI_iff T17.ad).mpr ⟨_, rfl, ?_⟩
              rw [e9, e15]
              refine cvVq H17.ad (s2_keep H17 hl (liV cs p)) fun h20 q20 => ⟨_, rfl, by rw [if_pos eB], ⟨v15, ?_⟩, ?_, f17.spt.trans q20.2.spc⟩
              · unfold liP; rw [if_neg (by rw [b1]; decide), if_neg (by rw [b2]; decide), if_neg (by rw [b3]; decide), if_neg (by rw [b4]; decide), if_neg (by rw [b5]; decide)]; exact T17.fr q20.2 (by omega)
              · rw [if_pos eB]; exact q20.1
            · have b6 : lB6 cs p = false := by unfold lB6; simp [r00 q17.1 c16]
              refine no h17 v15 (by unfold liB; rw [b6]; simp) ?_ (f15.trans q17.2.2)
              · unfold liP; rw [if_neg (by rw [b1]; decide), if_neg (by rw [b2]; decide), if_neg (by rw [b3]; decide), if_neg (by rw [b4]; decide), if_neg (by rw [b5]; decide)]; exact q17.2.1
          · have b5 : lB5 cs p = false := by
              have := r00 q15.1 c14
              unfold lB5; simpa using this
            obtain ⟨v15, T15, -⟩ := q15.2.1
            exact no h15 v15 (by unfold liB; rw [b5]; simp) (by unfold liP; rw [if_neg (by rw [b1]; decide), if_neg (by rw [b2]; decide), if_neg (by rw [b3]; decide), if_neg (by rw [b4]; decide), if_pos b5]; exact T15) (f13.trans q15.2.2)
      · have b3 : lB3 cs p = false := by
          have := r00 q9.1 c8
          unfold lB3; simpa using this
        obtain ⟨v9, T9, -⟩ := q9.2.1
        exact no h9 v9 (by unfold liB; rw [b3]; simp) (by unfold liP; rw [if_neg (by rw [b1]; decide), if_neg (by rw [b2]; decide), if_pos b3]; exact T9) (f7.trans q9.2.2)
  · have b1 : lB1 cs p = false := by unfold lB1; simp [c2]
    exact no h num (by unfold liB; rw [b1]; rfl) (by unfold liP; rw [if_pos b1]; exact T) Fr.refl
theorem s2_read (T : TxO h t cs p num) (H : LyO h c L) (d : t + 2 ≤ c ∨ c + 4 ≤ t) : sX2_read E [aP (some c), aP (some t)] h (kI fun r h' => r = (if (lyR cs).1 = true then 1 else 0) ∧ (∃ n', TxO h' t cs (lyR cs).2.1 n') ∧ LyO h' c (lyR cs).2.2 ∧ Sp t c h h') := by
  refine uX2_read (fun m h' l0 l1 l2 => ∃ q n' L, m ≤ 150 ∧ l0 = some c ∧ l1 = some t ∧ l2 = Int32.ofNat (150 - m) ∧ L.length + m = 150 ∧ TxO h' t cs q n' ∧ LyO h' c L ∧ lyGo cs m q L = lyR cs ∧ Sp t c h h') ?_ ?_
  · unfold PX2_read_0
    obtain ⟨sl, xs, ys, h1, h2, h3, h4, h5, h6⟩ := H
    refine (wr_iff h1).mpr ⟨Nat.le_of_ble_eq_true rfl, ?_⟩
    have f1 : Fr c (c + 4) h (h.set c (.inr (2, [aP (some (c + 1)), aP (some (c + 2)), aP (some (c + 3)), aI 0]))) := Fr.set (Nat.le_refl c) (by omega)
    have T1 := T.fr f1 (by omega)
    refine (wr_iff T1.ad).mpr ⟨Nat.le_of_ble_eq_true rfl, ?_⟩
    have T2 := T1.pos (q := 0) (by omega)
    have f2 : Fr t (t + 1) _ _ := Fr.set (h := (h.set c (.inr (2, [aP (some (c + 1)), aP (some (c + 2)), aP (some (c + 3)), aI 0])))) (x := .inr (9, [aP (some (t + 1)), aI (Int32.ofNat cs.length), aI (Int32.ofNat 0), aI num])) (Nat.le_refl t) (Nat.lt_succ_self t)
    exact ⟨150, 0, num, [], Nat.le_refl _, rfl, rfl, rfl, rfl, T2, ⟨sl, xs, ys, (f2.2 _ (by omega)).trans (gs h1), ⟨(f2.2 _ (by omega)).trans (gsn (by omega) h2.1), h2.2⟩, ⟨(f2.2 _ (by omega)).trans (gsn (by omega) h3.1), h3.2⟩, ⟨(f2.2 _ (by omega)).trans (gsn (by omega) h4.1), h4.2⟩, by simp, fun j hj => by simp at hj⟩, rfl, f1.spc.trans f2.spt⟩
  · rintro m h' l0 l1 l2 ⟨q, n', L, hm, rfl, rfl, rfl, hL, T', H', hgo, f⟩
    have end_ : ∀ q h2 n2, TxO h2 t cs q n2 → LyO h2 c L → lyEnd cs q L = lyR cs → Sp t c h h2 → PX2_read_42 E (kI fun r h' => r = (if (lyR cs).1 = true then 1 else 0) ∧ (∃ n', TxO h' t cs (lyR cs).2.1 n') ∧ LyO h' c (lyR cs).2.2 ∧ Sp t c h h') h2 (some t) := fun q h2 n2 T2 H2 he f2 => by
      unfold PX2_read_42
      rw [← he]
      refine cvIq T2.ad (s9_isAtEnd T2) fun r3 h3 q3 => ⟨?_, _, rfl, ?_, ⟨_, q3.2.1⟩, H2.fr q3.2.2 (by omega), f2.trans q3.2.2.spt⟩
      · rw [q3.1]; split
        · exact Or.inr rfl
        · exact Or.inl rfl
      · rw [q3.1]
        unfold lyEnd
        by_cases z : cur cs (skp cs q) = -1
        · simp [z]
        · simp [z]
    unfold PX2_read_12
    refine ⟨fun c => ?_, fun c => ?_⟩
    · have : 150 ≤ 150 - m := (i32_le (i := 150) (by omega) (by omega)).mp c
      have : m = 0 := by omega
      subst this
      exact end_ q h' n' T' H' hgo f
    · have hm0 : ¬ 150 ≤ 150 - m := fun q => c ((i32_le (i := 150) (j := 150 - m) (by omega) (by omega)).mpr q)
      obtain ⟨m, rfl⟩ : ∃ k, m = k + 1 := ⟨m - 1, by omega⟩
      rw [lyGo_succ] at hgo
      refine cvIq T'.ad (s9_isAtEnd T') fun r3 h3 q3 => ⟨fun c3 => ?_, fun c3 => ?_⟩
      · rw [if_pos (r01 q3.1 c3)] at hgo
        exact end_ _ h3 _ q3.2.1 (H'.fr q3.2.2 (by omega)) hgo (f.trans q3.2.2.spt)
      · rw [if_neg (r00 q3.1 c3)] at hgo
        have H3 := H'.fr q3.2.2 (by omega)
        refine cvIq H3.ad (s2_item q3.2.1 H3 (by omega) d) fun r4 h4 q4 => ⟨fun c4 => ?_, fun c4 => ?_⟩
        · have b := r01 q4.1 c4
          rw [if_pos b] at hgo
          obtain ⟨n4, T4⟩ := q4.2.1
          have H4 := q4.2.2.1
          rw [if_pos b] at H4
          exact ⟨m, by omega, _, n4, _, by omega, rfl, rfl, by rw [i32_s]; congr 1; omega, by rw [List.length_append, List.length_singleton]; omega, T4, H4, hgo, (f.trans q3.2.2.spt).trans q4.2.2.2⟩
        · have b := r00 q4.1 c4
          rw [if_neg b] at hgo
          obtain ⟨n4, T4⟩ := q4.2.1
          have H4 := q4.2.2.1
          rw [if_neg b] at H4
          rw [← hgo]
          exact ⟨_, rfl, rfl, ⟨n4, T4⟩, H4, (f.trans q3.2.2.spt).trans q4.2.2.2⟩
theorem s2_slot (H : LyO h c L) {j : Nat} (hj : j < L.length) (h8 : j < 8) : sX2_slot E [aP (some c), aI (Int32.ofNat j)] h (kI fun r h' => r = (L.getD j (0, 0, 0)).1 ∧ h' = h) := by
  obtain ⟨sl, xs, ys, h1, h2, h3, h4, h5, h6⟩ := H
  refine eX2_slot ?_
  unfold PX2_slot_0
  refine ⟨fun c => absurd c (i32_nn (by omega)), fun _ => (rdP_iff h1).mpr ⟨_, rfl, (alenI_iff h2.1).mpr ?_⟩⟩
  rw [h2.2]
  exact ⟨fun c => absurd ((i32_le (by omega) (by omega)).mp c) (by omega), fun _ => (rdP_iff h1).mpr ⟨_, rfl, aldI_of h2.1 (i32_nn (by omega)) (by rw [i32_n (by omega)]; exact getD_get (by omega)) ⟨_, rfl, congrArg (·.1) (h6 j hj h8), rfl⟩⟩⟩
theorem s2_x (H : LyO h c L) {j : Nat} (hj : j < L.length) (h8 : j < 8) : sX2_x E [aP (some c), aI (Int32.ofNat j)] h (kI fun r h' => r = (L.getD j (0, 0, 0)).2.1 ∧ h' = h) := by
  obtain ⟨sl, xs, ys, h1, h2, h3, h4, h5, h6⟩ := H
  refine eX2_x ?_
  unfold PX2_x_0
  refine ⟨fun c => absurd c (i32_nn (by omega)), fun _ => (rdP_iff h1).mpr ⟨_, rfl, (alenI_iff h3.1).mpr ?_⟩⟩
  rw [h3.2]
  exact ⟨fun c => absurd ((i32_le (by omega) (by omega)).mp c) (by omega), fun _ => (rdP_iff h1).mpr ⟨_, rfl, aldI_of h3.1 (i32_nn (by omega)) (by rw [i32_n (by omega)]; exact getD_get (by omega)) ⟨_, rfl, congrArg (·.2.1) (h6 j hj h8), rfl⟩⟩⟩
theorem s2_y (H : LyO h c L) {j : Nat} (hj : j < L.length) (h8 : j < 8) : sX2_y E [aP (some c), aI (Int32.ofNat j)] h (kI fun r h' => r = (L.getD j (0, 0, 0)).2.2 ∧ h' = h) := by
  obtain ⟨sl, xs, ys, h1, h2, h3, h4, h5, h6⟩ := H
  refine eX2_y ?_
  unfold PX2_y_0
  refine ⟨fun c => absurd c (i32_nn (by omega)), fun _ => (rdP_iff h1).mpr ⟨_, rfl, (alenI_iff h4.1).mpr ?_⟩⟩
  rw [h4.2]
  exact ⟨fun c => absurd ((i32_le (by omega) (by omega)).mp c) (by omega), fun _ => (rdP_iff h1).mpr ⟨_, rfl, aldI_of h4.1 (i32_nn (by omega)) (by rw [i32_n (by omega)]; exact getD_get (by omega)) ⟨_, rfl, congrArg (·.2.2) (h6 j hj h8), rfl⟩⟩⟩
end LR
