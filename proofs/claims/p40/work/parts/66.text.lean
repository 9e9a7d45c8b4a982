/-! the text, read from a position -/
def TxO (h : AH) (a : Nat) (cs : List Int32) (p : Nat) (num : Int32) : Prop := ∃ xs, h[a]? = some (.inr (9, [aP (some (a + 1)), aI (Int32.ofNat cs.length), aI (Int32.ofNat p), aI num])) ∧ (h[a + 1]? = some (.inl (0, xs)) ∧ xs.length = 150) ∧ cs.length ≤ 150 ∧ p ≤ 150 ∧ ∀ j, j < cs.length → xs.getD j 0 = cs.getD j 0
theorem TxO.fr {h h' : AH} {a lo hi p : Nat} {cs : List Int32} {num : Int32} (H : TxO h a cs p num) (r : Fr lo hi h h') (d : a + 2 ≤ lo ∨ hi ≤ a) : TxO h' a cs p num := by
  obtain ⟨xs, h1, h2, h3⟩ := H
  exact ⟨xs, (r.2 _ (by omega)).trans h1, ⟨(r.2 _ (by omega)).trans h2.1, h2.2⟩, h3⟩
theorem TxO.ad {h : AH} {a p : Nat} {cs : List Int32} {num : Int32} (H : TxO h a cs p num) : h[a]? = some (.inr (9, [aP (some (a + 1)), aI (Int32.ofNat cs.length), aI (Int32.ofNat p), aI num])) := by
  obtain ⟨xs, h1, -⟩ := H
  exact h1
theorem TxO.len {h : AH} {a p : Nat} {cs : List Int32} {num : Int32} (H : TxO h a cs p num) : cs.length ≤ 150 := by
  obtain ⟨xs, h1, h2, h3, -⟩ := H
  exact h3
theorem TxO.pos {h : AH} {a p : Nat} {cs : List Int32} {num : Int32} (H : TxO h a cs p num) {q : Nat} (hq : q ≤ 150) : TxO (h.set a (.inr (9, [aP (some (a + 1)), aI (Int32.ofNat cs.length), aI (Int32.ofNat q), aI num]))) a cs q num := by
  obtain ⟨xs, h1, h2, h3, h4, h5⟩ := H
  exact ⟨xs, gs h1, ⟨gsn (by omega) h2.1, h2.2⟩, h3, hq, h5⟩
theorem TxO.num {h : AH} {a p : Nat} {cs : List Int32} {num : Int32} (H : TxO h a cs p num) (v : Int32) : TxO (h.set a (.inr (9, [aP (some (a + 1)), aI (Int32.ofNat cs.length), aI (Int32.ofNat p), aI v]))) a cs p v := by
  obtain ⟨xs, h1, h2, h3, h4, h5⟩ := H
  exact ⟨xs, gs h1, ⟨gsn (by omega) h2.1, h2.2⟩, h3, h4, h5⟩
def cur (cs : List Int32) (p : Nat) : Int32 := if p < cs.length then cs.getD p 0 else -1
def skp (cs : List Int32) (p : Nat) : Nat := p + ((cs.drop p).takeWhile fun c => decide (c = 32)).length
theorem skp_go {cs : List Int32} {p : Nat} (h : p < cs.length) (h2 : cs.getD p 0 = 32) : skp cs p = skp cs (p + 1) := by
  unfold skp
  rw [List.drop_eq_getElem_cons h, List.takeWhile_cons]
  have : cs[p] = 32 := by rw [List.getD_eq_getElem?_getD, List.getElem?_eq_getElem h] at h2; exact h2
  simp only [this, decide_true, if_true, List.length_cons]; omega
theorem skp_stop {cs : List Int32} {p : Nat} (h : p < cs.length → cs.getD p 0 ≠ 32) : skp cs p = p := by
  unfold skp
  by_cases c : p < cs.length
  · rw [List.drop_eq_getElem_cons c, List.takeWhile_cons]
    have h2 := h c
    rw [List.getD_eq_getElem?_getD, List.getElem?_eq_getElem c] at h2
    have : ¬ cs[p] = 32 := h2
    simp [this]
  · rw [List.drop_eq_nil_of_le (by omega)]; rfl
theorem skp_ind {cs : List Int32} {P : Nat → Prop} (hs : ∀ p, (p < cs.length → cs.getD p 0 ≠ 32) → P p) (hg : ∀ p, p < cs.length → cs.getD p 0 = 32 → P (p + 1) → P p) : ∀ d p, cs.length - p = d → P p := by
  intro d
  induction d with
  | zero => intro p hp; exact hs p fun c => by omega
  | succ d ih =>
    intro p hp
    by_cases c : cs.getD p 0 = 32
    · exact hg p (by omega) c (ih (p + 1) (by omega))
    · exact hs p fun _ => c
theorem skp_end {cs : List Int32} (p : Nat) : skp cs p < cs.length → cs.getD (skp cs p) 0 ≠ 32 := by
  refine skp_ind (cs := cs) (P := fun p => skp cs p < cs.length → cs.getD (skp cs p) 0 ≠ 32) (fun p h => ?_) (fun p h1 h2 ih => ?_) _ p rfl
  · rw [skp_stop h]; exact h
  · rw [skp_go h1 h2]; exact ih
theorem skp_skp {cs : List Int32} {p : Nat} : skp cs (skp cs p) = skp cs p := skp_stop (skp_end p)
def accP (cs : List Int32) (c : Int32) (p : Nat) : Nat := if cur cs (skp cs p) = c then skp cs p + 1 else skp cs p
def sgnP (cs : List Int32) (p : Nat) : Int32 := if cur cs (skp cs p) = 45 then -1 else 1
def dgB (cs : List Int32) (p : Nat) : Bool := decide (¬ cur cs p < 48 ∧ cur cs p ≤ 57)
def dgV (cs : List Int32) (p : Nat) : Int32 := if dgB cs p = true then cur cs p - 48 else -1
def dgP (cs : List Int32) (p : Nat) : Nat := if dgB cs p = true then p + 1 else p
def nmQ (cs : List Int32) (p : Nat) : Nat := skp cs (accP cs 45 p)
def nmV (cs : List Int32) (p : Nat) : Int32 := sgnP cs p * dgV cs (nmQ cs p)
def plQ (cs : List Int32) (p : Nat) : Nat := if dgB cs (accP cs 45 p) = true then (if dgV cs (accP cs 45 p) ≤ 0 then accP cs 45 p + 1 else dgP cs (accP cs 45 p + 1)) else accP cs 45 p
def plV (cs : List Int32) (p : Nat) : Int32 := sgnP cs p * (if dgV cs (accP cs 45 p) ≤ 0 then dgV cs (accP cs 45 p) else if dgB cs (accP cs 45 p + 1) = true then 10 * dgV cs (accP cs 45 p) + dgV cs (accP cs 45 p + 1) else dgV cs (accP cs 45 p))
theorem cur_lt {cs : List Int32} {p : Nat} (h : cur cs p ≠ -1) : p < cs.length := by
  unfold cur at h
  by_cases c : p < cs.length
  · exact c
  · rw [if_neg c] at h; exact absurd rfl h
theorem dg_lt {cs : List Int32} {p : Nat} (h : dgB cs p = true) : p < cs.length := cur_lt fun q => by
  unfold dgB at h
  rw [q] at h; exact absurd h (by decide)
theorem dg_range {cs : List Int32} {p : Nat} (h : dgB cs p = true) : 0 ≤ dgV cs p ∧ dgV cs p ≤ 9 := by
  unfold dgV
  rw [if_pos h]
  have := of_decide_eq_true h
  rw [Int32.lt_iff_toInt_lt, Int32.le_iff_toInt_le] at this
  have e1 : (48 : Int32).toInt = 48 := by decide
  have e2 : (57 : Int32).toInt = 57 := by decide
  have e3 : (9 : Int32).toInt = 9 := by decide
  have e4 : (0 : Int32).toInt = 0 := by decide
  rw [e1, e2] at this
  rw [Int32.le_iff_toInt_le, Int32.le_iff_toInt_le, Int32.toInt_sub, e1, e3, e4]
  simp only [Int.bmod]; omega
section TX
variable {E : EV} {h : AH} {a p : Nat} {cs : List Int32} {num : Int32}
theorem s9_current (H : TxO h a cs p num) : sX9_current E [aP (some a)] h (kI fun r h' => r = cur cs p ∧ h' = h) := by
  obtain ⟨xs, h1, h2, h3, h4, h5⟩ := H
  refine eX9_current ?_
  unfold PX9_current_0
  refine (rdI_iff h1).mpr ⟨_, rfl, fun c => absurd c (i32_nn (by omega)), fun _ => (rdI_iff h1).mpr ⟨_, rfl, (rdI_iff h1).mpr ⟨_, rfl, fun c => ?_, fun c => (rdI_iff h1).mpr ⟨_, rfl, (rdP_iff h1).mpr ⟨_, rfl, (alenI_iff h2.1).mpr ?_⟩⟩⟩⟩⟩
  · have := (i32_le (by omega) (by omega)).mp c
    unfold PX9_current_34 PX9_current_35
    exact ⟨fun _ => ⟨_, rfl, by unfold cur; rw [if_neg (by omega)], rfl⟩, fun q => absurd rfl q⟩
  · have hp := mt (i32_le (i := cs.length) (j := p) (by omega) (by omega)).mpr c
    rw [h2.2]
    refine ⟨fun c2 => absurd ((i32_le (by omega) (by omega)).mp c2) (by omega), fun _ => ?_⟩
    unfold PX9_current_35
    refine ⟨fun q => absurd q (by decide), fun _ => (rdP_iff h1).mpr ⟨_, rfl, (rdI_iff h1).mpr ⟨_, rfl, aldI_of h2.1 (i32_nn (by omega)) (by rw [i32_n (by omega)]; exact getD_get (by omega)) ⟨_, rfl, ?_, rfl⟩⟩⟩⟩
    unfold cur
    rw [if_pos (by omega)]; exact h5 p (by omega)
theorem s9_skip (H : TxO h a cs p num) : sX9_skipSpaces E [aP (some a)] h (kV fun h' => TxO h' a cs (skp cs p) num ∧ Fr a (a + 1) h h') := by
  refine uX9_skipSpaces (fun m h' l0 => ∃ q, m = cs.length - q ∧ l0 = some a ∧ TxO h' a cs q num ∧ skp cs q = skp cs p ∧ Fr a (a + 1) h h') ⟨_, p, rfl, rfl, H, rfl, Fr.refl⟩ ?_
  rintro m h' l0 ⟨q, rfl, rfl, H', e, f⟩
  have HH := H'
  obtain ⟨xs, h1, h2, h3, h4, h5⟩ := H'
  have stop : (q < cs.length → cs.getD q 0 ≠ 32) → kV (fun h' => TxO h' a cs (skp cs p) num ∧ Fr a (a + 1) h h') none h' := fun c => ⟨rfl, by rw [← e, skp_stop c]; exact HH, f⟩
  unfold PX9_skipSpaces_0
  refine (rdI_iff h1).mpr ⟨_, rfl, fun c => absurd c (i32_nn (by omega)), fun _ => (rdI_iff h1).mpr ⟨_, rfl, (rdP_iff h1).mpr ⟨_, rfl, (alenI_iff h2.1).mpr ?_⟩⟩⟩
  rw [h2.2]
  refine ⟨fun c => ?_, fun c => (rdI_iff h1).mpr ⟨_, rfl, (rdI_iff h1).mpr ⟨_, rfl, fun c2 => ?_, fun c2 => ?_⟩⟩⟩
  · have := (i32_le (i := 150) (by omega) (by omega)).mp c
    exact stop fun _ => by omega
  · have := (i32_le (by omega) (by omega)).mp c2
    exact stop fun _ => by omega
  · have hp := mt (i32_le (i := cs.length) (j := q) (by omega) (by omega)).mpr c2
    refine (rdP_iff h1).mpr ⟨_, rfl, (rdI_iff h1).mpr ⟨_, rfl, aldI_of h2.1 (i32_nn (by omega)) (by rw [i32_n (by omega)]; exact getD_get (by omega)) ⟨fun c3 => ?_, fun c3 => ?_⟩⟩⟩
    · rw [h5 q (by omega)] at c3
      exact stop fun _ => c3
    · rw [h5 q (by omega)] at c3
      refine (rdI_iff h1).mpr ⟨_, rfl, (wr_iff h1).mpr ⟨Nat.le_of_ble_eq_true rfl, cs.length - (q + 1), by omega, q + 1, rfl, rfl, ?_, ?_, f.trans (Fr.set (Nat.le_refl a) (by omega))⟩⟩
      · rw [i32_s]; exact HH.pos (by omega)
      · rw [← e, skp_go (by omega) c3]
theorem s9_isAtEnd (H : TxO h a cs p num) : sX9_isAtEnd E [aP (some a)] h (kI fun r h' => r = (if cur cs (skp cs p) = -1 then 1 else 0) ∧ TxO h' a cs (skp cs p) num ∧ Fr a (a + 1) h h') := by
  refine eX9_isAtEnd ?_
  unfold PX9_isAtEnd_0
  refine cvVq H.ad (s9_skip H) fun h2 q => cvI q.1.ad (s9_current q.1) ⟨fun c => ⟨_, rfl, by rw [if_neg c], q⟩, fun c => ⟨_, rfl, by rw [if_pos c], q⟩⟩
theorem s9_isNext (H : TxO h a cs p num) (c : Int32) : sX9_isNext E [aP (some a), aI c] h (kI fun r h' => r = (if cur cs (skp cs p) = c then 1 else 0) ∧ TxO h' a cs (skp cs p) num ∧ Fr a (a + 1) h h') := by
  refine eX9_isNext ?_
  unfold PX9_isNext_0
  refine cvVq H.ad (s9_skip H) fun h2 q => cvI q.1.ad (s9_current q.1) ⟨fun c => ⟨_, rfl, by rw [if_neg c], q⟩, fun c => ⟨_, rfl, by rw [if_pos c], q⟩⟩
theorem s9_accept (H : TxO h a cs p num) {c : Int32} (hc : c ≠ -1) : sX9_accept E [aP (some a), aI c] h (kI fun r h' => r = (if cur cs (skp cs p) = c then 1 else 0) ∧ TxO h' a cs (accP cs c p) num ∧ Fr a (a + 1) h h') := by
  refine eX9_accept ?_
  unfold PX9_accept_0
  refine cvVq H.ad (s9_skip H) fun h2 q => cvI q.1.ad (s9_current q.1) ⟨fun c => ?_, fun c => ?_⟩ <;> unfold PX9_accept_17
  · refine ⟨fun _ => ⟨Or.inl rfl, _, rfl, by rw [if_neg c], ?_, q.2⟩, fun c2 => absurd rfl c2⟩
    unfold accP; rw [if_neg c]; exact q.1
  · refine ⟨fun c2 => absurd c2 (by decide), fun _ => (rdI_iff q.1.ad).mpr ⟨_, rfl, (wr_iff q.1.ad).mpr ⟨Nat.le_of_ble_eq_true rfl, Or.inr rfl, _, rfl, by rw [if_pos c], ?_, q.2.trans (Fr.set (Nat.le_refl a) (by omega))⟩⟩⟩
    unfold accP; rw [if_pos c, i32_s]
    exact q.1.pos (by have := cur_lt (cs := cs) (p := skp cs p) (by rw [c]; exact hc); have := H.len; omega)
theorem s9_digit (H : TxO h a cs p num) : sX9_takeDigit E [aP (some a)] h (kI fun r h' => r = dgV cs p ∧ TxO h' a cs (dgP cs p) num ∧ Fr a (a + 1) h h') := by
  refine eX9_takeDigit ?_
  unfold PX9_takeDigit_0
  refine cvI H.ad (s9_current H) ⟨fun c => ?_, fun c => ⟨fun c2 => ?_, fun c2 => ?_⟩⟩
  · have : ¬ dgB cs p = true := fun q => (of_decide_eq_true q).1 c
    refine ⟨_, rfl, by unfold dgV; rw [if_neg this], ?_, Fr.refl⟩
    unfold dgP; rw [if_neg this]; exact H
  · have : dgB cs p = true := decide_eq_true ⟨c, c2⟩
    refine (rdI_iff H.ad).mpr ⟨_, rfl, (wr_iff H.ad).mpr ⟨Nat.le_of_ble_eq_true rfl, _, rfl, by unfold dgV; rw [if_pos this], ?_, Fr.set (Nat.le_refl a) (by omega)⟩⟩
    unfold dgP; rw [if_pos this, i32_s]
    exact H.pos (by have := dg_lt this; have := H.len; omega)
  · have : ¬ dgB cs p = true := fun q => c2 (of_decide_eq_true q).2
    refine ⟨_, rfl, by unfold dgV; rw [if_neg this], ?_, Fr.refl⟩
    unfold dgP; rw [if_neg this]; exact H
theorem dgV_neg {p : Nat} (h : ¬ dgB cs p = true) : dgV cs p = -1 := by unfold dgV; rw [if_neg h]
theorem s9_number (H : TxO h a cs p num) : sX9_readNumber E [aP (some a)] h (kI fun r h' => r = (if dgB cs (nmQ cs p) = true then 1 else 0) ∧ TxO h' a cs (dgP cs (nmQ cs p)) (nmV cs p) ∧ Fr a (a + 1) h h') := by
  refine eX9_readNumber ?_
  unfold PX9_readNumber_0
  have go : ∀ h2, TxO h2 a cs (accP cs 45 p) num → Fr a (a + 1) h h2 → PX9_readNumber_14 E (kI fun r h' => r = (if dgB cs (nmQ cs p) = true then 1 else 0) ∧ TxO h' a cs (dgP cs (nmQ cs p)) (nmV cs p) ∧ Fr a (a + 1) h h') h2 (some a) (sgnP cs p) := fun h2 H2 f2 => by
    unfold PX9_readNumber_14
    refine cvVq H2.ad (s9_skip H2) fun h3 q3 => cvIq q3.1.ad (s9_digit q3.1) fun r h4 q4 => (wr_iff q4.2.1.ad).mpr ⟨Nat.le_of_ble_eq_true rfl, ?_⟩
    have fin := q4.2.1.num (sgnP cs p * r)
    rw [q4.1] at fin ⊢
    have ff := ((f2.trans q3.2).trans q4.2.2).trans (Fr.set (x := .inr (9, [aP (some (a + 1)), aI (Int32.ofNat cs.length), aI (Int32.ofNat (dgP cs (skp cs (accP cs 45 p)))), aI (sgnP cs p * dgV cs (skp cs (accP cs 45 p)))])) (Nat.le_refl a) (Nat.lt_succ_self a))
    refine ⟨fun c => ⟨_, rfl, ?_, fin, ff⟩, fun c => ⟨_, rfl, ?_, fin, ff⟩⟩
    · rw [if_neg]
      intro q
      exact i32_not_lt.mpr (dg_range q).1 c
    · rw [if_pos]
      refine Decidable.of_not_not fun q => c ?_
      have e1 : dgV cs (skp cs (accP cs 45 p)) = -1 := dgV_neg q
      rw [e1]; decide
  refine cvIq H.ad (s9_accept H (by decide)) fun r h2 q => ⟨fun c => ?_, fun c => ?_⟩
  · have : sgnP cs p = 1 := by
      unfold sgnP
      rw [if_neg fun z => by rw [q.1, if_pos z] at c; exact absurd c (by decide)]
    have := go h2 q.2.1 q.2.2
    rw [‹sgnP cs p = 1›] at this; exact this
  · have : sgnP cs p = -1 := by
      unfold sgnP
      rw [if_pos (Decidable.of_not_not fun z => c (by rw [q.1, if_neg z]))]
    have := go h2 q.2.1 q.2.2
    rw [‹sgnP cs p = -1›] at this; exact this
theorem s9_place (H : TxO h a cs p num) : sX9_readPlace E [aP (some a)] h (kI fun r h' => r = (if dgB cs (accP cs 45 p) = true then 1 else 0) ∧ (∃ v, TxO h' a cs (plQ cs p) v ∧ (dgB cs (accP cs 45 p) = true → v = plV cs p)) ∧ Fr a (a + 1) h h') := by
  refine eX9_readPlace ?_
  unfold PX9_readPlace_0
  have go : ∀ h2, TxO h2 a cs (accP cs 45 p) num → Fr a (a + 1) h h2 → PX9_readPlace_14 E (kI fun r h' => r = (if dgB cs (accP cs 45 p) = true then 1 else 0) ∧ (∃ v, TxO h' a cs (plQ cs p) v ∧ (dgB cs (accP cs 45 p) = true → v = plV cs p)) ∧ Fr a (a + 1) h h') h2 (some a) (sgnP cs p) := fun h2 H2 f2 => by
    unfold PX9_readPlace_14
    refine cvIq H2.ad (s9_digit H2) fun r h3 q3 => ?_
    rw [q3.1]
    by_cases cb : dgB cs (accP cs 45 p) = true
    · have hr := dg_range cb
      have q31 : TxO h3 a cs (accP cs 45 p + 1) num := by
        have := q3.2.1
        unfold dgP at this; rw [if_pos cb] at this; exact this
      refine ⟨fun _ => ⟨fun c2 => ?_, fun c2 => ?_⟩, fun c => absurd hr.1 c⟩
      · unfold PX9_readPlace_50
        refine (wr_iff q31.ad).mpr ⟨Nat.le_of_ble_eq_true rfl, _, rfl, by rw [if_pos cb], ⟨sgnP cs p * dgV cs (accP cs 45 p), ?_, fun _ => ?_⟩, (f2.trans q3.2.2).trans (Fr.set (Nat.le_refl a) (by omega))⟩
        · unfold plQ; rw [if_pos cb, if_pos c2]; exact q31.num _
        · unfold plV; rw [if_pos c2]
      · refine cvIq q31.ad (s9_digit q31) fun r5 h6 q6 => ?_
        rw [q6.1]
        have eQ : plQ cs p = dgP cs (accP cs 45 p + 1) := by unfold plQ; rw [if_pos cb, if_neg c2]
        have fin : ∀ v, v = (if dgB cs (accP cs 45 p + 1) = true then 10 * dgV cs (accP cs 45 p) + dgV cs (accP cs 45 p + 1) else dgV cs (accP cs 45 p)) → PX9_readPlace_49 E (kI fun r h' => r = (if dgB cs (accP cs 45 p) = true then 1 else 0) ∧ (∃ v, TxO h' a cs (plQ cs p) v ∧ (dgB cs (accP cs 45 p) = true → v = plV cs p)) ∧ Fr a (a + 1) h h') h6 (some a) (sgnP cs p) v := fun v ev => by
          unfold PX9_readPlace_49 PX9_readPlace_50
          refine (wr_iff q6.2.1.ad).mpr ⟨Nat.le_of_ble_eq_true rfl, _, rfl, by rw [if_pos cb], ⟨sgnP cs p * v, ?_, fun _ => ?_⟩, ((f2.trans q3.2.2).trans q6.2.2).trans (Fr.set (Nat.le_refl a) (by omega))⟩
          · rw [eQ]; exact q6.2.1.num _
          · unfold plV; rw [if_neg c2, ev]
        refine ⟨fun c5 => fin _ ?_, fun c5 => fin _ ?_⟩
        · rw [if_pos]
          refine Decidable.of_not_not fun q => ?_
          rw [dgV_neg q] at c5; exact absurd c5 (by decide)
        · rw [if_neg]
          exact fun q => c5 (dg_range q).1
    · rw [dgV_neg cb]
      refine ⟨fun c => absurd c (by decide), fun _ => ⟨_, rfl, by rw [if_neg cb], ⟨num, ?_, fun c => absurd c cb⟩, f2.trans q3.2.2⟩⟩
      have := q3.2.1
      unfold dgP at this; rw [if_neg cb] at this
      unfold plQ; rw [if_neg cb]; exact this
  refine cvIq H.ad (s9_accept H (by decide)) fun r h2 q => ⟨fun c => ?_, fun c => ?_⟩
  · have : sgnP cs p = 1 := by
      unfold sgnP
      rw [if_neg fun z => by rw [q.1, if_pos z] at c; exact absurd c (by decide)]
    have := go h2 q.2.1 q.2.2
    rw [‹sgnP cs p = 1›] at this; exact this
  · have : sgnP cs p = -1 := by
      unfold sgnP
      rw [if_pos (Decidable.of_not_not fun z => c (by rw [q.1, if_neg z]))]
    have := go h2 q.2.1 q.2.2
    rw [‹sgnP cs p = -1›] at this; exact this
theorem s9_append (H : TxO h a cs p num) (hl : cs.length < 150) (c : Int32) : sX9_append E [aP (some a), aI c] h (kV fun h' => TxO h' a (cs ++ [c]) p num ∧ Fr a (a + 2) h h') := by
  obtain ⟨xs, h1, h2, h3, h4, h5⟩ := H
  refine eX9_append ?_
  unfold PX9_append_0
  refine (rdI_iff h1).mpr ⟨_, rfl, fun c => absurd c (i32_nn (by omega)), fun _ => (rdI_iff h1).mpr ⟨_, rfl, (rdP_iff h1).mpr ⟨_, rfl, (alenI_iff h2.1).mpr ?_⟩⟩⟩
  rw [h2.2]
  refine ⟨fun c => absurd ((i32_le (by omega) (by omega)).mp c) (by omega), fun _ => (rdP_iff h1).mpr ⟨_, rfl, (rdI_iff h1).mpr ⟨_, rfl, ⟨_, _, rfl, h2.1, i32_nn (by omega), by rw [i32_n (by omega), h2.2]; exact hl, ?_⟩⟩⟩⟩
  have g1 := gsn (x := .inl (0, xs.set (Int32.ofNat cs.length).toNatClampNeg c)) (show a + 1 ≠ a by omega) h1
  refine (rdI_iff g1).mpr ⟨_, rfl, (wr_iff g1).mpr ⟨Nat.le_of_ble_eq_true rfl, rfl, ⟨_, ?_, ⟨gsn (by omega) (gs h2.1), ?_⟩, ?_, h4, fun j hj => ?_⟩, (Fr.set (by omega) (by omega)).trans (Fr.set (Nat.le_refl a) (by omega))⟩⟩
  · rw [gs g1, List.length_append, List.length_singleton, ← i32_s]; rfl
  · rw [List.length_set]; exact h2.2
  · rw [List.length_append, List.length_singleton]; omega
  · rw [List.length_append, List.length_singleton] at hj
    rw [i32_n (by omega), getD_set, getD_app, h2.2]
    by_cases q : j < cs.length
    · rw [if_pos q, if_neg (by omega)]; exact h5 j q
    · have : j = cs.length := by omega
      subst this
      rw [if_pos ⟨rfl, by omega⟩, if_neg q, if_pos rfl]
end TX
