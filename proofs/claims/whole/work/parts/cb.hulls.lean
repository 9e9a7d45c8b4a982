/-! hulls: class and reference -/
theorem zP_inj {a b : PT} (h : zP a = zP b) : a = b := by
  have h1 : a.1.toInt = b.1.toInt := congrArg Prod.fst h
  have h2 : a.2.toInt = b.2.toInt := congrArg Prod.snd h
  exact Prod.ext (Int32.toInt_inj.mp h1) (Int32.toInt_inj.mp h2)
def PtS (T : List PT) (t : Z2) : Prop := ∃ i, i < T.length ∧ zP (tAt T i) = t
def Bs (T : List PT) : Prop := ∀ v, v ∈ T → -18 ≤ v.1.toInt ∧ v.1.toInt ≤ 18 ∧ -18 ≤ v.2.toInt ∧ v.2.toInt ≤ 18
theorem Bs.at' {T : List PT} (H : Bs T) (i : Nat) : -18 ≤ (tAt T i).1.toInt ∧ (tAt T i).1.toInt ≤ 18 ∧ -18 ≤ (tAt T i).2.toInt ∧ (tAt T i).2.toInt ≤ 18 := by
  unfold tAt
  by_cases c : i < T.length
  · exact H _ (getD_mem (0, 0) c)
  · rw [List.getD_eq_getElem?_getD, List.getElem?_eq_none (by omega)]
    exact ⟨by decide, by decide, by decide, by decide⟩
theorem Bs.bd {T : List PT} (H : Bs T) (i : Nat) : Bd (tAt T i) := by
  obtain ⟨a, b, c, d⟩ := H.at' i
  exact ⟨by omega, by omega, by omega, by omega⟩
theorem pigeon : ∀ (n K : Nat) (f : Nat → Nat), (∀ i, i < K → f i < n) → (∀ i j, i < K → j < K → f i = f j → i = j) → K ≤ n := fun n => by
  induction n with
  | zero =>
    intro K f h _
    by_cases c : K = 0
    · omega
    · have := h 0 (by omega); omega
  | succ n ih =>
    intro K f h hi
    by_cases c : ∃ i, i < K ∧ f i = n
    · obtain ⟨i0, h0, e0⟩ := c
      have := ih (K - 1) (fun i => f (if i < i0 then i else i + 1)) (fun i hlt => ?_) (fun i j hi' hj' e => ?_)
      · omega
      · have hb : (if i < i0 then i else i + 1) < K := by split <;> omega
        have l := h _ hb
        have ne : f (if i < i0 then i else i + 1) ≠ n := fun q => by
          have := hi _ _ hb h0 (by rw [q, e0])
          split at this <;> omega
        show f (if i < i0 then i else i + 1) < n
        omega
      · have b1 : (if i < i0 then i else i + 1) < K := by split <;> omega
        have b2 : (if j < i0 then j else j + 1) < K := by split <;> omega
        have := hi _ _ b1 b2 e
        split at this <;> split at this <;> omega
    · have := ih K f (fun i hlt => by
        have l := h i hlt
        have : f i ≠ n := fun q => c ⟨i, hlt, q⟩
        omega) hi
      omega
section HB
variable {T : List PT} {K : Nat} {V : Nat → Z2}
theorem turn_cr (B : Bs T) (v b k : Nat) : (nxTurn T v b k).toInt = cr (zs (zP (tAt T b)) (zP (tAt T v))) (zs (zP (tAt T k)) (zP (tAt T v))) := cr_i32 (B.bd v) (B.bd b) (B.bd k) (B.bd v)
theorem sub_at (B : Bs T) (v k : Nat) : (((tAt T k).1 - (tAt T v).1).toInt = (zs (zP (tAt T k)) (zP (tAt T v))).1 ∧ ((tAt T k).2 - (tAt T v).2).toInt = (zs (zP (tAt T k)) (zP (tAt T v))).2) ∧ (-36 ≤ (zs (zP (tAt T k)) (zP (tAt T v))).1 ∧ (zs (zP (tAt T k)) (zP (tAt T v))).1 ≤ 36) ∧ -36 ≤ (zs (zP (tAt T k)) (zP (tAt T v))).2 ∧ (zs (zP (tAt T k)) (zP (tAt T v))).2 ≤ 36 := by
  have a := B.at' k
  have b := B.at' v
  unfold zs zP
  dsimp only
  rw [i32_subE (by omega) (by omega) (by omega) (by omega), i32_subE (by omega) (by omega) (by omega) (by omega)]
  omega
theorem sq_dt (B : Bs T) (v k : Nat) : (nxSq T v k).toInt = dt (zs (zP (tAt T k)) (zP (tAt T v))) (zs (zP (tAt T k)) (zP (tAt T v))) := by
  obtain ⟨⟨e1, e2⟩, b1, b2⟩ := sub_at B v k
  have m1 := i32_mulE (x := (tAt T k).1 - (tAt T v).1) (y := (tAt T k).1 - (tAt T v).1) (by omega) (by omega) (by omega) (by omega)
  have m2 := i32_mulE (x := (tAt T k).2 - (tAt T v).2) (y := (tAt T k).2 - (tAt T v).2) (by omega) (by omega) (by omega) (by omega)
  unfold nxSq
  rw [i32_addE (by rw [m1.1]; exact m1.2.1) (by rw [m1.1]; exact m1.2.2) (by rw [m2.1]; exact m2.2.1) (by rw [m2.1]; exact m2.2.2), m1.1, m2.1, e1, e2]
  rfl
theorem far_ab (B : Bs T) (v k : Nat) : (rFar T v k).toInt = abZ (zs (zP (tAt T k)) (zP (tAt T v))).1 + abZ (zs (zP (tAt T k)) (zP (tAt T v))).2 := by
  obtain ⟨⟨e1, e2⟩, b1, b2⟩ := sub_at B v k
  have s1 := sz_i32 (v := (tAt T k).1 - (tAt T v).1) (by omega) (by omega)
  have s2 := sz_i32 (v := (tAt T k).2 - (tAt T v).2) (by omega) (by omega)
  have ab : ∀ a : Int, -36 ≤ a → a ≤ 36 → 0 ≤ abZ a ∧ abZ a ≤ 36 := fun a h1 h2 => by unfold abZ; split <;> omega
  have a1 := ab _ b1.1 b1.2
  have a2 := ab _ b2.1 b2.2
  unfold rFar
  rw [e1] at s1
  rw [e2] at s2
  rw [i32_addE (by omega) (by omega) (by omega) (by omega), s1, s2]
theorem i32_z : (0 : Int32).toInt = 0 := by decide
theorem nx_StW (B : Bs T) (v b i : Nat) : StW (fun w => dt w w) (fun i => zP (tAt T i)) (zP (tAt T v)) b i (nxStep T v b i) := by
  have c : (nxTurn T v b i < 0 ∨ nxTurn T v b i = 0 ∧ nxSq T v b < nxSq T v i) ↔ (cr (zs (zP (tAt T b)) (zP (tAt T v))) (zs (zP (tAt T i)) (zP (tAt T v))) < 0 ∨ cr (zs (zP (tAt T b)) (zP (tAt T v))) (zs (zP (tAt T i)) (zP (tAt T v))) = 0 ∧ dt (zs (zP (tAt T b)) (zP (tAt T v))) (zs (zP (tAt T b)) (zP (tAt T v))) < dt (zs (zP (tAt T i)) (zP (tAt T v))) (zs (zP (tAt T i)) (zP (tAt T v)))) := by
    rw [Int32.lt_iff_toInt_lt, Int32.lt_iff_toInt_lt, ← Int32.toInt_inj, turn_cr B, sq_dt B, sq_dt B, i32_z]
  unfold nxStep
  constructor
  · intro h
    have h := c.mpr h
    show zP (tAt T (if _ then _ else _)) = _
    rw [if_pos h]
  · intro h
    have h := fun q => h (c.mp q)
    show zP (tAt T (if _ then _ else _)) = _
    rw [if_neg h]
theorem nr_StW (B : Bs T) (v b i : Nat) : StW (fun w => abZ w.1 + abZ w.2) (fun i => zP (tAt T i)) (zP (tAt T v)) b i (nrStep T v b i) := by
  have e1 : rFar T v b = 0 ↔ abZ (zs (zP (tAt T b)) (zP (tAt T v))).1 + abZ (zs (zP (tAt T b)) (zP (tAt T v))).2 = 0 := by rw [← Int32.toInt_inj, far_ab B, i32_z]
  have e2 : nxTurn T v b i < 0 ↔ cr (zs (zP (tAt T b)) (zP (tAt T v))) (zs (zP (tAt T i)) (zP (tAt T v))) < 0 := by rw [Int32.lt_iff_toInt_lt, turn_cr B, i32_z]
  have e3 : nxTurn T v b i = 0 ↔ cr (zs (zP (tAt T b)) (zP (tAt T v))) (zs (zP (tAt T i)) (zP (tAt T v))) = 0 := by rw [← Int32.toInt_inj, turn_cr B, i32_z]
  have e4 : rFar T v b < rFar T v i ↔ abZ (zs (zP (tAt T b)) (zP (tAt T v))).1 + abZ (zs (zP (tAt T b)) (zP (tAt T v))).2 < abZ (zs (zP (tAt T i)) (zP (tAt T v))).1 + abZ (zs (zP (tAt T i)) (zP (tAt T v))).2 := by rw [Int32.lt_iff_toInt_lt, far_ab B, far_ab B]
  have cc : (nxTurn T v b i < 0 ∨ nxTurn T v b i = 0 ∧ rFar T v b < rFar T v i) ↔ (cr (zs (zP (tAt T b)) (zP (tAt T v))) (zs (zP (tAt T i)) (zP (tAt T v))) < 0 ∨ cr (zs (zP (tAt T b)) (zP (tAt T v))) (zs (zP (tAt T i)) (zP (tAt T v))) = 0 ∧ abZ (zs (zP (tAt T b)) (zP (tAt T v))).1 + abZ (zs (zP (tAt T b)) (zP (tAt T v))).2 < abZ (zs (zP (tAt T i)) (zP (tAt T v))).1 + abZ (zs (zP (tAt T i)) (zP (tAt T v))).2) := by rw [e2, e3, e4]
  unfold nrStep
  constructor
  · intro h
    have h := cc.mpr h
    show zP (tAt T (if _ then _ else _)) = _
    rw [if_pos (Or.inr h)]
  · intro h
    have h := fun q => h (cc.mp q)
    show zP (tAt T (if _ then _ else _)) = zP (tAt T b)
    by_cases c : rFar T v b = 0 ∨ nxTurn T v b i < 0 ∨ nxTurn T v b i = 0 ∧ rFar T v b < rFar T v i
    · rw [if_pos c]
      rcases c with c | c
      · have c' := e1.mp c
        have z := (msr_ab.2.1 _).mp c'
        have c0 : cr (zs (zP (tAt T b)) (zP (tAt T v))) (zs (zP (tAt T i)) (zP (tAt T v))) = 0 := by rw [z]; unfold cr; simp
        have n := msr_ab.1 (zs (zP (tAt T i)) (zP (tAt T v)))
        have n : 0 ≤ abZ (zs (zP (tAt T i)) (zP (tAt T v))).1 + abZ (zs (zP (tAt T i)) (zP (tAt T v))).2 := n
        have z2 : abZ (zs (zP (tAt T i)) (zP (tAt T v))).1 + abZ (zs (zP (tAt T i)) (zP (tAt T v))).2 = 0 := by
          by_cases q : abZ (zs (zP (tAt T i)) (zP (tAt T v))).1 + abZ (zs (zP (tAt T i)) (zP (tAt T v))).2 = 0
          · exact q
          · exact absurd (Or.inr ⟨e3.mpr c0, e4.mpr (by omega)⟩) h
        have z3 := (msr_ab.2.1 _).mp z2
        rw [zs_eq z, zs_eq z3]
      · exact absurd c h
    · rw [if_neg c]
theorem PtS.eqv (t : Z2) : PtS T t ↔ ∃ i, i < T.length ∧ (fun i => zP (tAt T i)) i = t := Iff.rfl
theorem nxT_next (H : Hul K V (PtS T)) (B : Bs T) {v k : Nat} (hv : zP (tAt T v) = V k) : zP (tAt T (nxT T v)) = V (k + 1) :=
  wrap H msr_dt PtS.eqv (k := k) (st := nxStep T v) (fun b i _ _ => by rw [← hv]; exact nx_StW B v b i) hv
theorem nrT_next (H : Hul K V (PtS T)) (B : Bs T) {v k : Nat} (hv : zP (tAt T v) = V k) : zP (tAt T (nrT T v)) = V (k + 1) :=
  wrap H msr_ab PtS.eqv (k := k) (st := nrStep T v) (fun b i _ _ => by rw [← hv]; exact nr_StW B v b i) hv
theorem lowT_spec (hne : T ≠ []) : ∀ j, j < T.length → (tAt T (lowT T)).2.toInt < (tAt T j).2.toInt ∨ ((tAt T (lowT T)).2.toInt = (tAt T j).2.toInt ∧ (tAt T (lowT T)).1.toInt ≤ (tAt T j).1.toInt) := by
  have hl : 0 < T.length := List.length_pos_iff.mpr hne
  have key : ∀ r j, j ≤ r → (tAt T ((List.range r).foldl (lowStep T) 0)).2.toInt < (tAt T j).2.toInt ∨ ((tAt T ((List.range r).foldl (lowStep T) 0)).2.toInt = (tAt T j).2.toInt ∧ (tAt T ((List.range r).foldl (lowStep T) 0)).1.toInt ≤ (tAt T j).1.toInt) := fun r => by
    induction r with
    | zero =>
      intro j hj
      have : j = 0 := by omega
      subst this
      exact Or.inr ⟨rfl, Int.le_refl _⟩
    | succ r ih =>
      intro j hj
      rw [fold_succ]
      generalize (List.range r).foldl (lowStep T) 0 = b at *
      unfold lowStep
      split
      · rename_i c
        rw [Int32.lt_iff_toInt_lt] at c
        by_cases d : j = r + 1
        · subst d; exact Or.inr ⟨rfl, Int.le_refl _⟩
        · have := ih j (by omega); omega
      · rename_i c
        rw [Int32.lt_iff_toInt_lt] at c
        split
        · rename_i c2
          obtain ⟨c2, c3⟩ := c2
          rw [← Int32.toInt_inj] at c2
          rw [Int32.lt_iff_toInt_lt] at c3
          by_cases d : j = r + 1
          · subst d; exact Or.inr ⟨rfl, Int.le_refl _⟩
          · have := ih j (by omega); omega
        · rename_i c2
          by_cases d : j = r + 1
          · subst d
            rw [← Int32.toInt_inj, Int32.lt_iff_toInt_lt] at c2
            by_cases q : (tAt T (r + 1)).2.toInt = (tAt T b).2.toInt
            · have : ¬ (tAt T (r + 1)).1.toInt < (tAt T b).1.toInt := fun w => c2 ⟨q, w⟩
              omega
            · omega
          · exact ih j (by omega)
  intro j hj
  exact key (T.length - 1) j (by omega)
theorem low_first (B : Bs T) (hne : T ≠ []) {t : Z2} (ht : PtS T t) (n : t ≠ zP (tAt T (lowT T))) : dt lM (zP (tAt T (lowT T))) < dt lM t := by
  obtain ⟨i, hi, rfl⟩ := ht
  have a := lowT_spec hne i hi
  have b := B.at' i
  have c := B.at' (lowT T)
  rw [dt_lM, dt_lM]
  have e : ¬ ((tAt T i).1.toInt = (tAt T (lowT T)).1.toInt ∧ (tAt T i).2.toInt = (tAt T (lowT T)).2.toInt) := fun q => n (Prod.ext q.1 q.2)
  unfold zP
  dsimp only
  omega
theorem nd_of {n : Nat} {f : Nat → Z2} {Q : Z2 → Prop} (F : Cvx n f) (h : ∀ k, Q (f k)) (c b : Z2) (hc : c ≠ (0, 0)) : ∃ t, Q t ∧ cr c (zs t b) ≠ 0 := by
  by_cases c1 : cr c (ed f 0) = 0
  · by_cases c2 : cr c (ed f 1) = 0
    · exfalso
      have t := F.turn 0
      have t : 0 < cr (ed f 0) (ed f 1) := t
      have q1 : cr (ed f 0) (ed f 1) * c.1 = cr c (ed f 1) * (ed f 0).1 - cr c (ed f 0) * (ed f 1).1 := by unfold cr; grind
      have q2 : cr (ed f 0) (ed f 1) * c.2 = cr c (ed f 1) * (ed f 0).2 - cr c (ed f 0) * (ed f 1).2 := by unfold cr; grind
      rw [c1, c2, Int.zero_mul, Int.zero_mul] at q1 q2
      have r1 := (Int.mul_eq_zero.mp (show cr (ed f 0) (ed f 1) * c.1 = 0 by omega)).resolve_left (by omega)
      have r2 := (Int.mul_eq_zero.mp (show cr (ed f 0) (ed f 1) * c.2 = 0 by omega)).resolve_left (by omega)
      exact hc (Prod.ext r1 r2)
    · by_cases d : cr c (zs (f 1) b) = 0
      · refine ⟨_, h 2, fun q => c2 ?_⟩
        show cr c (zs (f 2) (f 1)) = 0
        rw [cr_zs] at d q
        rw [cr_zs]; omega
      · exact ⟨_, h 1, d⟩
  · by_cases d : cr c (zs (f 0) b) = 0
    · refine ⟨_, h 1, fun q => c1 ?_⟩
      show cr c (zs (f 1) (f 0)) = 0
      rw [cr_zs] at d q
      rw [cr_zs]; omega
    · exact ⟨_, h 0, d⟩
/-- the hull of a list of points: what is asked of it -/
def HL (T : List PT) (K : Nat) (V : Nat → Z2) : Prop := (Bs T ∧ T ≠ []) ∧ Low lM K V ∧ V 0 = zP (tAt T (lowT T)) ∧ Hul K V (PtS T)
theorem HL.ne (H : HL T K V) {i : Nat} (h0 : 0 < i) (hK : i < K) : V i ≠ V 0 := H.2.1.1.ne (e := 0) (v := i) (by omega) (by omega)
theorem HL.le (H : HL T K V) : K ≤ T.length := by
  have ch : ∀ k, ∃ i, i < T.length ∧ zP (tAt T i) = V k := fun k => H.2.2.2.2.1 k
  refine pigeon T.length K (fun k => Classical.choose (ch k)) (fun k _ => (Classical.choose_spec (ch k)).1) fun i j hi hj e => ?_
  have a := (Classical.choose_spec (ch i)).2
  have b := (Classical.choose_spec (ch j)).2
  have e : Classical.choose (ch i) = Classical.choose (ch j) := e
  rw [e, b] at a
  rcases Nat.lt_trichotomy i j with q | q | q
  · exact absurd a (H.2.1.1.ne (e := i) (v := j) (by omega) (by omega))
  · exact q
  · exact absurd a.symm (H.2.1.1.ne (e := j) (v := i) (by omega) (by omega))
theorem HL.cls (H : HL T K V) (h18 : K ≤ 18) : (hullP T).length = K ∧ ∀ k, k < K → zP ((hullP T).getD k (0, 0)) = V k := by
  have h3 := H.2.1.1.1
  have go : ∀ r k v t, k + r = K → 1 ≤ r → zP (tAt T v) = V k → r ≤ t → (hullGo T (lowT T) t v).length = r ∧ ∀ j, j < r → zP ((hullGo T (lowT T) t v).getD j (0, 0)) = V (k + j) := fun r => by
    induction r with
    | zero => intro k v t _ h; omega
    | succ r ih =>
      intro k v t hk _ hv ht
      obtain ⟨t, rfl⟩ : ∃ u, t = u + 1 := ⟨t - 1, by omega⟩
      rw [hullGo_succ]
      have nx := nxT_next H.2.2.2 H.1.1 hv
      by_cases c : r = 0
      · subst c
        have e : tAt T (nxT T v) = tAt T (lowT T) := zP_inj (by rw [nx, ← H.2.2.1, show k + 1 = 0 + K by omega, H.2.1.1.2.1])
        rw [if_pos e]
        refine ⟨rfl, fun j hj => ?_⟩
        have : j = 0 := by omega
        subst this
        exact hv
      · have ne : tAt T (nxT T v) ≠ tAt T (lowT T) := fun q => H.ne (i := k + 1) (by omega) (by omega) (by rw [← nx, H.2.2.1, q])
        rw [if_neg ne]
        obtain ⟨i1, i2⟩ := ih (k + 1) (nxT T v) t (by omega) (by omega) nx (by omega)
        refine ⟨by rw [List.length_cons, i1], fun j hj => ?_⟩
        cases j with
        | zero => exact hv
        | succ j =>
          rw [List.getD_cons_succ, i2 j (by omega)]
          congr 1; omega
  have := go K 0 (lowT T) 18 (by omega) (by omega) H.2.2.1.symm h18
  refine ⟨this.1, fun k hk => ?_⟩
  have := this.2 k hk
  rw [Nat.zero_add] at this
  exact this
theorem HL.idx (H : HL T K V) : ∀ i, zP (tAt T (hrI T i)) = V i := fun i => by
  induction i with
  | zero => exact H.2.2.1.symm
  | succ i ih => rw [hrI_succ]; exact nrT_next H.2.2.2 H.1.1 ih
theorem HL.ends (H : HL T K V) (h36 : K ≤ 36) : HuE T K := by
  have h3 := H.2.1.1.1
  refine ⟨by omega, h36, zP_inj ?_, fun i h0 hi q => ?_⟩
  · rw [H.idx, ← H.2.2.1]
    have := H.2.1.1.2.1 0
    rw [Nat.zero_add] at this; exact this
  · refine H.ne h0 hi ?_
    rw [← H.idx, q, H.2.2.1]
theorem HL.ref (H : HL T K V) (h36 : K ≤ 36) : (hullR T).length = K ∧ ∀ k, k < K → zP ((hullR T).getD k (0, 0)) = V k := by
  have h3 := H.2.1.1.1
  have hs := huN_spec ⟨K, H.ends h36⟩
  have eK : huN T = K := by
    obtain ⟨a, b, c, d⟩ := hs
    rcases Nat.lt_trichotomy (huN T) K with q | q | q
    · exfalso
      refine H.ne (i := huN T) (by omega) q ?_
      rw [← H.idx, c, H.2.2.1]
    · exact q
    · exfalso
      exact d K (by omega) q (H.ends h36).2.2.1
  refine ⟨by rw [hullR_len, eK], fun k hk => ?_⟩
  unfold hullR hrP
  rw [eK, getD_mapq (d := 0) (by rw [List.length_range]; exact hk)]
  have er : (List.range K).getD k 0 = k := by
    rw [List.getD_eq_getElem?_getD, List.getElem?_range hk]; rfl
  rw [er]
  exact H.idx k
theorem list_same {L1 L2 : List PT} (h1 : L1.length = K) (h2 : L2.length = K) (h : ∀ k, k < K → zP (L1.getD k (0, 0)) = zP (L2.getD k (0, 0))) : L1 = L2 := by
  refine List.ext_getElem (by rw [h1, h2]) fun i a b => ?_
  have := zP_inj (h i (by omega))
  rw [List.getD_eq_getElem?_getD, List.getD_eq_getElem?_getD, List.getElem?_eq_getElem a, List.getElem?_eq_getElem b] at this
  exact this
/-- a list that starts at its lowest point is numbered from its first -/
theorem low_nil {L : List PT} {m : Int} (hm : 0 ≤ m ∧ m ≤ 200) (B : ∀ v, v ∈ L → -m ≤ v.1.toInt ∧ v.1.toInt ≤ m ∧ -m ≤ v.2.toInt ∧ v.2.toInt ≤ m) (h0 : 0 < L.length) (h : ∀ i, 0 < i → i < L.length → dt lM (zP (L.getD 0 (0, 0))) < dt lM (zP (L.getD i (0, 0)))) : low L = 0 := by
  have hne : L ≠ [] := List.length_pos_iff.mp h0
  obtain ⟨i1, i2⟩ := pfold_low L hne
  obtain ⟨j1, j2⟩ := pfold_LoS L hne
  by_cases c : low L = 0
  · exact c
  · exfalso
    have st := h (low L) (by omega) i1
    obtain ⟨⟨k1, k2⟩, -⟩ := j2 0 h0
    have j1' : (L.getD (low L) (0, 0)).2 = (pfold L).2.2.2.2.1 := j1
    rw [i2, ← j1'] at k2
    rw [← j1'] at k1
    have b0 := B _ (getD_mem (0, 0) h0)
    have bv := B _ (getD_mem (0, 0) i1)
    rw [dt_lM, dt_lM] at st
    unfold zP at st
    dsimp only at st
    by_cases d : (L.getD 0 (0, 0)).2 = (L.getD (low L) (0, 0)).2
    · have k2 := k2 d
      rw [d] at st
      omega
    · have : (L.getD 0 (0, 0)).2.toInt ≠ (L.getD (low L) (0, 0)).2.toInt := fun q => d (Int32.toInt_inj.mp q)
      omega
end HB
