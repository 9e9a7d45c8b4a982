/-! the history: the states that undo() brings back, the oldest first -/
def HiR (h : AH) (a e : Nat) (bs : List Nat) (n : Nat) : Prop :=
  h[a]? = some (.inr (1, [aP (some (a + 1)), aI (Int32.ofNat n)])) ∧ h[a + 1]? = some (.inr (14, rfs bs)) ∧ bs.length = 6 ∧ n ≤ 6 ∧ (∀ j, j < 6 → ∃ k, k < 6 ∧ bs.getD j 0 = a + 2 + 5 * k) ∧ (∀ i j, i < 6 → j < 6 → bs.getD i 0 = bs.getD j 0 → i = j)
def Hi (h : AH) (a e : Nat) (vs : List SV) : Prop :=
  ∃ bs, HiR h a e bs vs.length ∧ (∀ j, j < 6 → ∃ σ, StI h (bs.getD j 0) e σ) ∧ ∀ j, j < vs.length → StI h (bs.getD j 0) e (vs.getD j ([], [], 0, 0, 0))
theorem HiR.fr {h h' : AH} {a e lo hi n : Nat} {bs : List Nat} (H : HiR h a e bs n) (f : Fr lo hi h h') (d : a + 2 ≤ lo ∨ hi ≤ a) : HiR h' a e bs n :=
  ⟨(f.2 _ (by omega)).trans H.1, (f.2 _ (by omega)).trans H.2.1, H.2.2⟩
theorem Hi.fr {h h' : AH} {a e lo hi : Nat} {vs : List SV} (H : Hi h a e vs) (f : Fr lo hi h h') (d : a + 32 ≤ lo ∨ hi ≤ a) : Hi h' a e vs := by
  obtain ⟨bs, R, q1, q2⟩ := H
  refine ⟨bs, R.fr f (by omega), fun j hj => ?_, fun j hj => ?_⟩
  · obtain ⟨σ, s⟩ := q1 j hj
    obtain ⟨k, hk, e1⟩ := R.2.2.2.2.1 j hj
    exact ⟨σ, s.fr f (by omega)⟩
  · obtain ⟨k, hk, e1⟩ := R.2.2.2.2.1 j (by have := R.2.2.2.1; omega)
    exact (q2 j hj).fr f (by omega)
def push6 (vs : List SV) (σ : SV) : List SV := if vs.length < 6 then vs ++ [σ] else vs.tail ++ [σ]
section HY
variable {E : EV} {h : AH} {a e n : Nat} {bs : List Nat} {vs : List SV} {σ : SV}
theorem s1_saved (R : HiR h a e bs n) {j : Nat} (hj : j < 6) : sX1_saved E [aP (some a), aI (Int32.ofNat j)] h (kP fun r h' => r = some (bs.getD j 0) ∧ h' = h) := by
  obtain ⟨h1, h2, l2, -⟩ := R
  refine eX1_saved ?_
  unfold PX1_saved_0
  refine ⟨fun c => absurd c (i32_nn (by omega)), fun _ => (rdP_iff h1).mpr ⟨_, rfl, (alenP_iff h2).mpr ?_⟩⟩
  rw [rfs_len, l2]
  exact ⟨fun c => absurd ((i32_le (by omega) (by omega)).mp c) (by omega), fun _ => (rdP_iff h1).mpr ⟨_, rfl, aldP_of h2 (i32_nn (by omega)) (by rw [i32_n (by omega)]; exact rfs_get (by omega)) ⟨_, rfl, rfl, rfl⟩⟩⟩
theorem i32_pred {n : Nat} (h1 : 1 ≤ n) (h2 : n < 2147483648) : Int32.ofNat n - 1 = Int32.ofNat (n - 1) := by
  rw [← Int32.toInt_inj, Int32.toInt_sub, i32_lt (by omega), i32_lt (by omega)]
  have : (1 : Int32).toInt = 1 := by decide
  rw [this]; simp only [Int.bmod]; omega
theorem s1_discard (R : HiR h a e bs n) (hn : 1 ≤ n) (hst : ∀ j, j < 6 → ∃ σ, StI h (bs.getD j 0) e σ) : sX1_discardOldest E [aP (some a)] h (kV fun h' => (∃ bs', HiR h' a e bs' (n - 1) ∧ (∀ q, q < 6 → bs'.getD q 0 = bs.getD (if q < 5 then q + 1 else 0) 0)) ∧ Fr a (a + 2) h h') := by
  have cls : ∀ j, j < 6 → ∃ us, h[bs.getD j 0]? = some (.inr (8, us)) := fun j hj => by
    obtain ⟨σ, sh, xs, ys, S, -⟩ := hst j hj
    exact ⟨_, S.1⟩
  have offA : ∀ j, j < 6 → a + 2 ≤ bs.getD j 0 := fun j hj => by
    obtain ⟨k, hk, e1⟩ := R.2.2.2.2.1 j hj
    omega
  have perm : ∀ bs' : List Nat, bs'.length = 6 → (∀ q, q < 6 → bs'.getD q 0 = bs.getD (if q < 5 then q + 1 else 0) 0) → (∀ j, j < 6 → ∃ k, k < 6 ∧ bs'.getD j 0 = a + 2 + 5 * k) ∧ (∀ i j, i < 6 → j < 6 → bs'.getD i 0 = bs'.getD j 0 → i = j) := fun bs' hl ag => by
    refine ⟨fun j hj => by rw [ag j hj]; exact R.2.2.2.2.1 _ (by split <;> omega), fun i j hi hj q => ?_⟩
    rw [ag i hi, ag j hj] at q
    have := R.2.2.2.2.2 _ _ (by split <;> omega) (by split <;> omega) q
    split at this <;> split at this <;> omega
  refine eX1_discardOldest (J8 := fun h' l0 l1 l2 => ∃ z j bs', z = 5 - j ∧ j ≤ 5 ∧ l0 = some a ∧ l1 = some (bs.getD 0 0) ∧ l2 = Int32.ofNat j ∧ h'[a]? = some (.inr (1, [aP (some (a + 1)), aI (Int32.ofNat n)])) ∧ h'[a + 1]? = some (.inr (14, rfs bs')) ∧ bs'.length = 6 ∧ (∀ q, q < 6 → bs'.getD q 0 = bs.getD (if q < j then q + 1 else q) 0) ∧ Fr a (a + 2) h h') (fun X C D h' l0 l1 l2 ⟨z, hz⟩ => ?_) ?_
  · refine lpX1_discardOldest_8 C D (fun z h' l0 l1 l2 => ∃ j bs', z = 5 - j ∧ j ≤ 5 ∧ l0 = some a ∧ l1 = some (bs.getD 0 0) ∧ l2 = Int32.ofNat j ∧ h'[a]? = some (.inr (1, [aP (some (a + 1)), aI (Int32.ofNat n)])) ∧ h'[a + 1]? = some (.inr (14, rfs bs')) ∧ bs'.length = 6 ∧ (∀ q, q < 6 → bs'.getD q 0 = bs.getD (if q < j then q + 1 else q) 0) ∧ Fr a (a + 2) h h') (fun z h' l0 l1 l2 hI => ?_) z h' l0 l1 l2 hz
    obtain ⟨j, bs', rfl, hj, rfl, rfl, rfl, h1, h2, l6, ag, f⟩ := hI
    unfold PX1_discardOldest_8
    refine (rdP_iff h1).mpr ⟨_, rfl, (alenP_iff h2).mpr ?_⟩
    rw [rfs_len, l6]
    refine ⟨fun c => ?_, fun c => ?_⟩
    · have hj5 : j = 5 := by
        have := (i32_le (i := 5) (j := j) (by omega) (by omega)).mp c
        omega
      subst hj5
      refine (rdP_iff h1).mpr ⟨_, rfl, (alenP_iff h2).mpr ?_⟩
      rw [rfs_len, l6]
      refine ⟨fun c => absurd c (by decide), fun _ => (rdP_iff h1).mpr ⟨_, rfl, (rdP_iff h1).mpr ⟨_, rfl, (alenP_iff h2).mpr ?_⟩⟩⟩
      rw [rfs_len, l6]
      obtain ⟨us, hu⟩ := cls 0 (by omega)
      have hu' : h'[bs.getD 0 0]? = some (.inr (8, us)) := (f.2 _ (by have := offA 0 (by omega); omega)).trans hu
      refine astP_of h2 hu' (by decide) (by rw [rfs_len, l6]; decide) ?_
      rw [show (Int32.ofNat 6 - 1).toNatClampNeg = 5 by decide, rfs_set]
      unfold PX1_discardOldest_60
      refine (rdI_iff (gsn (by omega) h1)).mpr ⟨_, rfl, (wr_iff (gsn (by omega) h1)).mpr ⟨Nat.le_of_ble_eq_true rfl, rfl, ⟨bs'.set 5 (bs.getD 0 0), ?_, ?_⟩, (f.trans (Fr.set (by omega) (by omega))).trans (Fr.set (by omega) (by omega))⟩⟩
      · have ag5 : ∀ q, q < 6 → (bs'.set 5 (bs.getD 0 0)).getD q 0 = bs.getD (if q < 5 then q + 1 else 0) 0 := fun q hq => by
          rw [getD_set, l6]
          by_cases c5 : 5 = q
          · subst c5; simp
          · simp only [c5, false_and, if_false, ag q hq]
            rw [if_pos (by omega), if_pos (by omega)]
        have pm := perm _ (by rw [List.length_set]; exact l6) ag5
        exact ⟨by rw [gs (gsn (by omega) h1)]; rw [i32_pred hn (by have := R.2.2.2.1; omega)]; rfl, gsn (by omega) (gs h2), by rw [List.length_set]; exact l6, by have := R.2.2.2.1; omega, pm.1, pm.2⟩
      · intro q hq
        rw [getD_set, l6]
        by_cases c5 : 5 = q
        · subst c5; simp
        · simp only [c5, false_and, if_false, ag q hq]
          rw [if_pos (by omega), if_pos (by omega)]
    · have hj5 : j < 5 := by
        have := mt (i32_le (i := 5) (j := j) (by omega) (by omega)).mpr c
        omega
      rw [i32_s]
      refine (rdP_iff h1).mpr ⟨_, rfl, (rdP_iff h1).mpr ⟨_, rfl, aldP_of h2 (i32_nn (by omega)) (by rw [i32_n (by omega)]; exact rfs_get (by omega)) ?_⟩⟩
      rw [ag (j + 1) (by omega), if_neg (by omega)]
      obtain ⟨us, hu⟩ := cls (j + 1) (by omega)
      have hu' : h'[bs.getD (j + 1) 0]? = some (.inr (8, us)) := (f.2 _ (by have := offA (j + 1) (by omega); omega)).trans hu
      refine astP_of h2 hu' (i32_nn (by omega)) (by rw [rfs_len, l6, i32_n (by omega)]; omega) ?_
      rw [i32_n (by omega), rfs_set]
      refine ⟨5 - (j + 1), by omega, j + 1, _, rfl, hj5, rfl, rfl, rfl, gsn (by omega) h1, gs h2, by rw [List.length_set]; exact l6, fun q hq => ?_, f.trans (Fr.set (by omega) (by omega))⟩
      rw [getD_set, l6]
      by_cases c5 : j = q
      · subst c5
        simp only [true_and, show j < 6 by omega, if_true]
        rw [if_pos (by omega)]
      · simp only [c5, false_and, if_false, ag q hq]
        by_cases c6 : q < j
        · rw [if_pos c6, if_pos (by omega)]
        · rw [if_neg c6, if_neg (by omega)]
  · unfold PX1_discardOldest_0
    exact cvP R.1 (s1_saved R (j := 0) (by omega)) ⟨5, 0, bs, rfl, by omega, rfl, rfl, rfl, R.1, R.2.1, R.2.2.1, fun q hq => by simp, Fr.refl⟩
theorem getD_tail {α : Type} {l : List α} {q : Nat} {d : α} : l.tail.getD q d = l.getD (q + 1) d := by
  cases l <;> simp [List.getD_eq_getElem?_getD]
theorem getD_app {α : Type} {l : List α} {q : Nat} {x d : α} : (l ++ [x]).getD q d = if q < l.length then l.getD q d else if q = l.length then x else d := by
  simp only [List.getD_eq_getElem?_getD, List.getElem?_append]
  by_cases c : q < l.length
  · simp [c]
  · by_cases c2 : q = l.length
    · simp [c2]
    · simp only [c, if_false, c2]
      rw [List.getElem?_eq_none (by simp; omega)]; rfl
theorem s1_save16 (R : HiR h a e bs n) (hn : n < 6) {s : Nat} (dj : s + 5 ≤ a ∨ a + 32 ≤ s) (S : StI h s e σ) (sh : Shs h σ) (hst : ∀ j, j < 6 → ∃ σ, StI h (bs.getD j 0) e σ) {post : Option AV → AH → Prop} (k : ∀ h', HiR h' a e bs (n + 1) → StI h' (bs.getD n 0) e σ → (∀ (j : Nat) (σ' : SV), j < 6 → j ≠ n → StI h (bs.getD j 0) e σ' → StI h' (bs.getD j 0) e σ') → Fr a (a + 32) h h' → post none h') : PX1_save_16 E post h (some a) (some s) := by
  unfold PX1_save_16
  obtain ⟨kn, hkn, en⟩ := R.2.2.2.2.1 n hn
  obtain ⟨σ0, S0⟩ := hst n hn
  refine (rdI_iff R.1).mpr ⟨_, rfl, cvP R.1 (s1_saved R hn) ⟨fun c => (by cases c), fun _ => ?_⟩⟩
  obtain ⟨sh0, xs0, ys0, T0, -⟩ := id S0
  refine cvVq T0.1 (t8_copy S0 S (by omega) sh) fun h1 q => ?_
  have R1 : HiR h1 a e bs n := R.fr q.2 (by omega)
  refine (rdI_iff R1.1).mpr ⟨_, rfl, (wr_iff R1.1).mpr ⟨Nat.le_of_ble_eq_true rfl, ?_⟩⟩
  have f2 : Fr a (a + 1) h1 (h1.set a (.inr (1, [aP (some (a + 1)), aI (Int32.ofNat n + 1)]))) := Fr.set (Nat.le_refl a) (by omega)
  refine k _ ⟨by rw [gs R1.1, i32_s]; rfl, gsn (by omega) R1.2.1, R1.2.2.1, by omega, R1.2.2.2.2⟩ (q.1.fr f2 (by omega)) (fun j σ' hj hjn s' => ?_) ((q.2.weak (by omega) (by omega)).trans (f2.weak (by omega) (by omega)))
  obtain ⟨kj, hkj, ej⟩ := R.2.2.2.2.1 j hj
  have : kj ≠ kn := fun c => hjn (R.2.2.2.2.2 j n hj hn (by omega))
  exact (s'.fr q.2 (by omega)).fr f2 (by omega)
theorem s1_save (H : Hi h a e vs) {s : Nat} (dj : s + 5 ≤ a ∨ a + 32 ≤ s) (S : StI h s e σ) (sh : Shs h σ) : sX1_save E [aP (some a), aP (some s)] h (kV fun h' => Hi h' a e (push6 vs σ) ∧ Fr a (a + 32) h h') := by
  obtain ⟨bs, R, hst, hv⟩ := H
  have h6 := R.2.2.2.1
  refine eX1_save ?_
  unfold PX1_save_0
  refine (rdI_iff R.1).mpr ⟨_, rfl, (rdP_iff R.1).mpr ⟨_, rfl, (alenP_iff R.2.1).mpr ?_⟩⟩
  rw [rfs_len, R.2.2.1]
  refine ⟨fun c => ?_, fun c => ?_⟩
  · have hlt : vs.length < 6 := (i32_ltn (by omega) (by omega)).mp c
    refine s1_save16 R hlt dj S sh hst fun h' R' S' keep f => ⟨rfl, ⟨bs, ?_, fun j hj => ?_, fun j hj => ?_⟩, f⟩
    · unfold push6; rw [if_pos hlt, List.length_append]; exact R'
    · by_cases c : j = vs.length
      · subst c; exact ⟨_, S'⟩
      · obtain ⟨σ', s'⟩ := hst j hj
        exact ⟨σ', keep j σ' hj c s'⟩
    · unfold push6 at hj ⊢
      rw [if_pos hlt] at hj ⊢
      rw [List.length_append] at hj
      rw [getD_app]
      by_cases c : j < vs.length
      · rw [if_pos c]; exact keep j _ (by omega) (by omega) (hv j c)
      · have : j = vs.length := by simp at hj; omega
        rw [if_neg c, if_pos this, this]; exact S'
  · have hge : vs.length = 6 := by
      have := mt (i32_ltn (i := vs.length) (j := 6) (by omega) (by omega)).mpr c
      omega
    refine cvVq R.1 (s1_discard R (by omega) hst) fun h1 q => ?_
    obtain ⟨⟨bs', R', ag⟩, f1⟩ := q
    rw [hge] at R'
    have st1 : ∀ j, j < 6 → ∀ σ', StI h (bs.getD j 0) e σ' → StI h1 (bs.getD j 0) e σ' := fun j hj σ' s' => by
      obtain ⟨k, hk, ek⟩ := R.2.2.2.2.1 j hj
      exact s'.fr f1 (by omega)
    have hst1 : ∀ j, j < 6 → ∃ σ, StI h1 (bs'.getD j 0) e σ := fun j hj => by
      rw [ag j hj]
      obtain ⟨σ', s'⟩ := hst _ (show (if j < 5 then j + 1 else 0) < 6 by split <;> omega)
      exact ⟨σ', st1 _ (by split <;> omega) _ s'⟩
    have S1 : StI h1 s e σ := S.fr f1 (by omega)
    have sh1 : Shs h1 σ := ⟨fun j hj => (sh.1 j hj).fr f1 (by
        obtain ⟨us, hu⟩ := sh.1 j hj
        by_cases c : (σ.1.getD j 0) < a ∨ a + 2 ≤ σ.1.getD j 0
        · exact c
        · exfalso
          rcases (show σ.1.getD j 0 = a ∨ σ.1.getD j 0 = a + 1 by omega) with c | c
          · rw [c, R.1] at hu; cases hu
          · rw [c, R.2.1] at hu; cases hu), fun j hj => (sh.2 j hj).fr f1 (by
        obtain ⟨us, hu⟩ := sh.2 j hj
        by_cases c : (σ.2.1.getD j (0, 0, 0)).1 < a ∨ a + 2 ≤ (σ.2.1.getD j (0, 0, 0)).1
        · exact c
        · exfalso
          rcases (show (σ.2.1.getD j (0, 0, 0)).1 = a ∨ (σ.2.1.getD j (0, 0, 0)).1 = a + 1 by omega) with c | c
          · rw [c, R.1] at hu; cases hu
          · rw [c, R.2.1] at hu; cases hu)⟩
    refine s1_save16 R' (by omega) dj S1 sh1 hst1 fun h' R2 S' keep f => ⟨rfl, ⟨bs', ?_, fun j hj => ?_, fun j hj => ?_⟩, (f1.weak (by omega) (by omega)).trans f⟩
    · unfold push6; rw [if_neg (by omega), List.length_append, List.length_tail, hge]; exact R2
    · by_cases c : j = 5
      · subst c; exact ⟨_, S'⟩
      · obtain ⟨σ', s'⟩ := hst1 j hj
        exact ⟨σ', keep j σ' hj c s'⟩
    · unfold push6 at hj ⊢
      rw [if_neg (by omega)] at hj ⊢
      rw [List.length_append, List.length_tail, hge] at hj
      rw [getD_app, List.length_tail, hge, getD_tail]
      by_cases c : j < 5
      · rw [if_pos c]
        have := st1 (j + 1) (by omega) _ (hv (j + 1) (by omega))
        have ag' := ag j (by omega)
        rw [if_pos c] at ag'
        rw [← ag'] at this
        exact keep j _ (by omega) (by omega) this
      · have : j = 5 := by simp at hj; omega
        rw [if_neg c, if_pos this, this]; exact S'
theorem s1_restore (H : Hi h a e vs) (hv : vs ≠ []) {s : Nat} (dj : s + 5 ≤ a ∨ a + 32 ≤ s) (S : StI h s e σ) (sh : Shs h (vs.getD (vs.length - 1) ([], [], 0, 0, 0))) : sX1_restore E [aP (some a), aP (some s)] h (kV fun h' => Hi h' a e vs.dropLast ∧ StI h' s e (vs.getD (vs.length - 1) ([], [], 0, 0, 0)) ∧ ∃ h1, Fr s (s + 5) h h1 ∧ Fr a (a + 32) h1 h') := by
  obtain ⟨bs, R, hst, hvs⟩ := H
  have h6 := R.2.2.2.1
  have hl : 1 ≤ vs.length := by cases vs with | nil => exact absurd rfl hv | cons _ _ => simp
  refine eX1_restore ?_
  unfold PX1_restore_0
  refine (rdI_iff R.1).mpr ⟨_, rfl, ?_⟩
  rw [i32_pred hl (by omega)]
  have hS := hvs (vs.length - 1) (by omega)
  obtain ⟨k, hk, ek⟩ := R.2.2.2.2.1 (vs.length - 1) (by omega)
  obtain ⟨sh0, xs0, ys0, T0, -⟩ := id S
  refine cvP R.1 (s1_saved R (by omega)) ⟨fun c => (by cases c), fun _ => cvVq T0.1 (t8_copy S hS (by omega) sh) fun h1 q => ?_⟩
  have R1 : HiR h1 a e bs vs.length := R.fr q.2 (by omega)
  refine (rdI_iff R1.1).mpr ⟨_, rfl, (wr_iff R1.1).mpr ⟨Nat.le_of_ble_eq_true rfl, rfl, ?_⟩⟩
  have f2 : Fr a (a + 1) h1 (h1.set a (.inr (1, [aP (some (a + 1)), aI (Int32.ofNat vs.length - 1)]))) := Fr.set (Nat.le_refl a) (by omega)
  refine ⟨⟨bs, ⟨?_, gsn (by omega) R1.2.1, R1.2.2.1, by rw [List.length_dropLast]; omega, R1.2.2.2.2⟩, fun j hj => ?_, fun j hj => ?_⟩, q.1.fr f2 (by omega), h1, q.2, f2.weak (by omega) (by omega)⟩
  · rw [List.length_dropLast, ← i32_pred hl (by omega)]; exact gs R1.1
  · obtain ⟨σ', s'⟩ := hst j hj
    obtain ⟨k', hk', ek'⟩ := R.2.2.2.2.1 j hj
    exact ⟨σ', (s'.fr q.2 (by omega)).fr f2 (by omega)⟩
  · rw [List.length_dropLast] at hj
    obtain ⟨k', hk', ek'⟩ := R.2.2.2.2.1 j (by omega)
    have := ((hvs j (by omega)).fr q.2 (by omega)).fr f2 (by omega)
    have e3 : vs.dropLast.getD j ([], [], 0, 0, 0) = vs.getD j ([], [], 0, 0, 0) := by
      simp [List.getD_eq_getElem?_getD, List.getElem?_dropLast, show j < vs.length - 1 by omega, show j < vs.length by omega]
    rw [e3]; exact this
end HY
