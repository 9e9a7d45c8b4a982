/-! the reference's test of a place, in the plane -/
theorem up_fold (f : Nat → Int32) : ∀ n, 0 < n → (∀ v, v < n → -100000 ≤ (f v).toInt) → ∃ v, v < n ∧ (List.range n).foldl (fun m v => upM m (f v)) (-100000) = f v ∧ ∀ u, u < n → (f u).toInt ≤ (f v).toInt := fun n => by
  have z : (-100000 : Int32).toInt = -100000 := by decide
  have le : ∀ a b : Int32, a ≤ b ↔ a.toInt ≤ b.toInt := fun a b => Int32.le_iff_toInt_le
  induction n with
  | zero => intro h; omega
  | succ n ih =>
    intro _ hb
    rw [fold_succ]
    by_cases c : n = 0
    · subst c
      refine ⟨0, by omega, ?_, fun u hu => by have : u = 0 := by omega
                                              subst this; exact Int.le_refl _⟩
      show upM (-100000) (f 0) = f 0
      unfold upM
      have b := hb 0 (by omega)
      split
      · rename_i q
        rw [le, z] at q
        exact Int32.toInt_inj.mp (by rw [z]; omega)
      · rfl
    · obtain ⟨v, h1, h2, h3⟩ := ih (by omega) fun v hv => hb v (by omega)
      rw [h2]
      unfold upM
      split
      · rename_i q
        rw [le] at q
        refine ⟨v, by omega, rfl, fun u hu => ?_⟩
        by_cases d : u = n
        · subst d; exact q
        · exact h3 u (by omega)
      · rename_i q
        rw [le] at q
        refine ⟨n, by omega, rfl, fun u hu => ?_⟩
        by_cases d : u = n
        · subst d; exact Int.le_refl _
        · have := h3 u (by omega); omega
/-- a small vector -/
def Nb (v : PT) : Prop := -40 ≤ v.1.toInt ∧ v.1.toInt ≤ 40 ∧ -40 ≤ v.2.toInt ∧ v.2.toInt ≤ 40
theorem dt_i32 {n v : PT} (hn : Nb n) (hv : Bd v) : (n.1 * v.1 + n.2 * v.2).toInt = dt (zP n) (zP v) ∧ -20000 ≤ dt (zP n) (zP v) ∧ dt (zP n) (zP v) ≤ 20000 := by
  obtain ⟨n1, n2, n3, n4⟩ := hn
  obtain ⟨v1, v2, v3, v4⟩ := hv
  have m1 := i32_mulE (x := n.1) (y := v.1) (by omega) (by omega) (by omega) (by omega)
  have m2 := i32_mulE (x := n.2) (y := v.2) (by omega) (by omega) (by omega) (by omega)
  have b1 := mul_bd (a := n.1.toInt) (b := v.1.toInt) (A := 40) (B := 200) (by omega) (by omega) (by omega) (by omega)
  have b2 := mul_bd (a := n.2.toInt) (b := v.2.toInt) (A := 40) (B := 200) (by omega) (by omega) (by omega) (by omega)
  rw [i32_addE (by rw [m1.1]; exact m1.2.1) (by rw [m1.1]; exact m1.2.2) (by rw [m2.1]; exact m2.2.1) (by rw [m2.1]; exact m2.2.2), m1.1, m2.1]
  unfold dt zP
  dsimp only
  omega
theorem hi_spec {A : List PT} {n : PT} (hA : Bw A) (h0 : 0 < A.length) (hn : Nb n) : (∃ v, v < A.length ∧ (hiP A n.1 n.2).toInt = dt (zP n) (zR A v)) ∧ ∀ u, dt (zP n) (zR A u) ≤ (hiP A n.1 n.2).toInt := by
  have d : ∀ v, (n.1 * (vR A v).1 + n.2 * (vR A v).2).toInt = dt (zP n) (zR A v) ∧ -20000 ≤ dt (zP n) (zR A v) ∧ dt (zP n) (zR A v) ≤ 20000 := fun v => dt_i32 hn (hA.get _)
  obtain ⟨v, h1, h2, h3⟩ := up_fold (fun v => n.1 * (vR A v).1 + n.2 * (vR A v).2) A.length h0 fun v _ => by rw [(d v).1]; have := d v; omega
  have e : hiP A n.1 n.2 = n.1 * (vR A v).1 + n.2 * (vR A v).2 := h2
  refine ⟨⟨v, h1, by rw [e]; exact (d v).1⟩, fun u => ?_⟩
  have := h3 (u % A.length) (Nat.mod_lt _ h0)
  rw [e, (d v).1]
  rw [(d v).1, (d _).1] at this
  have q : zR A (u % A.length) = zR A u := by unfold zR; rw [vR_congr (Nat.mod_mod ..)]
  rw [q] at this
  exact this
/-- a piece as the reference reads it -/
def RP (V : List PT) : Prop := SmV V ∧ (2 < V.length ∧ V.length ≤ 6) ∧ pieceR V
def cN (A B : List PT) (q : Nat) : Z2 := (-(zP (nrmN A B q)).2, (zP (nrmN A B q)).1)
theorem cr_cN (A B : List PT) (q : Nat) (w : Z2) : cr (cN A B q) w = -dt (zP (nrmN A B q)) w := by
  unfold cN
  generalize zP (nrmN A B q) = n
  unfold cr dt; grind
section RI
variable {A B : List PT} {x y r : Int32}
theorem vR_sub {V : List PT} (h : SmV V) (a b : Nat) : ((vR V a).1 - (vR V b).1).toInt = (zR V a).1 - (zR V b).1 ∧ ((vR V a).2 - (vR V b).2).toInt = (zR V a).2 - (zR V b).2 := by
  have p := vR_bd h a
  have q := vR_bd h b
  obtain ⟨a1, a2, a3, a4⟩ := p
  obtain ⟨b1, b2, b3, b4⟩ := q
  exact ⟨i32_subE (by omega) (by omega) (by omega) (by omega), i32_subE (by omega) (by omega) (by omega) (by omega)⟩
theorem nrm_axis (A B : List PT) {q : Nat} (hq : q < 4) : nrmN A B q = (if q = 0 then (1, 0) else if q = 1 then (0, 1) else if q = 2 then (-1, 0) else (0, -1)) := by
  unfold nrmN
  rw [if_pos hq]
  have : q = 0 ∨ q = 1 ∨ q = 2 ∨ q = 3 := by omega
  rcases this with rfl | rfl | rfl | rfl <;> decide
theorem cN_axis (A B : List PT) {q : Nat} (hq : q < 4) : cN A B q = (if q = 0 then (0, 1) else if q = 1 then (-1, 0) else if q = 2 then (0, -1) else (1, 0)) := by
  unfold cN
  rw [nrm_axis A B hq]
  have : q = 0 ∨ q = 1 ∨ q = 2 ∨ q = 3 := by omega
  rcases this with rfl | rfl | rfl | rfl <;> decide
theorem cN_a (hA : SmV A) {q : Nat} (h1 : 4 ≤ q) (h2 : q < 4 + A.length) : cN A B q = ed (zR A) (q - 4) := by
  unfold cN nrmN
  rw [if_neg (by omega), if_pos h2]
  have s := vR_sub hA (q - 3) (q - 4)
  have t := vR_sub hA (q - 4) (q - 3)
  unfold zP ed zs
  dsimp only
  rw [s.2, t.1, show q - 4 + 1 = q - 3 by omega]
  apply Prod.ext <;> dsimp only <;> omega
theorem cN_b (hB : SmV B) {q : Nat} (h2 : 4 + A.length ≤ q) : cN A B q = zs (0, 0) (ed (zR B) (q - 4 - A.length)) := by
  unfold cN nrmN
  rw [if_neg (by omega), if_neg (by omega)]
  have s := vR_sub hB (q - 4 - A.length) (q - 4 - A.length + 1)
  have t := vR_sub hB (q - 4 - A.length + 1) (q - 4 - A.length)
  unfold zP ed zs
  dsimp only
  rw [s.2, t.1]
  apply Prod.ext <;> dsimp only <;> omega
theorem cN_bd (hA : SmV A) (hB : SmV B) (q : Nat) : Nb (nrmN A B q) := by
  have back : -18 ≤ (cN A B q).1 ∧ (cN A B q).1 ≤ 18 ∧ -18 ≤ (cN A B q).2 ∧ (cN A B q).2 ≤ 18 := by
    by_cases c1 : q < 4
    · rw [cN_axis A B c1]
      have : q = 0 ∨ q = 1 ∨ q = 2 ∨ q = 3 := by omega
      rcases this with rfl | rfl | rfl | rfl <;> decide
    · by_cases c2 : q < 4 + A.length
      · rw [cN_a hA (by omega) c2]
        have a := zR_b hA (q - 4)
        have b := zR_b hA (q - 4 + 1)
        unfold ed zs
        dsimp only
        omega
      · rw [cN_b hB (by omega)]
        have a := zR_b hB (q - 4 - A.length)
        have b := zR_b hB (q - 4 - A.length + 1)
        unfold ed zs
        dsimp only
        omega
  unfold cN zP at back
  dsimp only at back
  exact ⟨by omega, by omega, by omega, by omega⟩
/-- all points of the polygon of both and a square about it -/
def TR (A B : List PT) (r : Int) (t : Z2) : Prop := ∃ (v u : Nat) (s : Z2), ((s.1 = r ∨ s.1 = -r) ∧ (s.2 = r ∨ s.2 = -r)) ∧ t = za (zs (zR A v) (zR B u)) s
theorem sz_i32 {v : Int32} (h1 : -1000 ≤ v.toInt) (h2 : v.toInt ≤ 1000) : (szI v).toInt = abZ v.toInt := by
  unfold szI abZ
  have z : (0 : Int32).toInt = 0 := by decide
  have le : (0 : Int32) ≤ v ↔ 0 ≤ v.toInt := by rw [Int32.le_iff_toInt_le, z]
  split
  · rename_i q; rw [if_pos (le.mp q)]
  · rename_i q
    rw [if_neg fun w => q (le.mpr w)]
    have := i32_subE (x := 0) (y := v) (by decide) (by decide) (by omega) (by omega)
    rw [Int32.zero_sub] at this
    rw [this, z]; omega
theorem sq_top (n : Z2) {r : Int} (hr : 0 ≤ r) : (∃ s : Z2, ((s.1 = r ∨ s.1 = -r) ∧ (s.2 = r ∨ s.2 = -r)) ∧ dt n s = r * (abZ n.1 + abZ n.2)) ∧ ∀ s : Z2, ((s.1 = r ∨ s.1 = -r) ∧ (s.2 = r ∨ s.2 = -r)) → dt n s ≤ r * (abZ n.1 + abZ n.2) := by
  have ab : ∀ x : Int, (x * r = r * abZ x ∨ x * -r = r * abZ x) ∧ x * r ≤ r * abZ x ∧ x * -r ≤ r * abZ x := fun x => by
    unfold abZ
    have e1 : x * -r = -(x * r) := Int.mul_neg ..
    have e2 : r * x = x * r := Int.mul_comm ..
    split
    · rename_i h
      have := Int.mul_nonneg h hr
      omega
    · rename_i h
      have := Int.mul_nonpos_of_nonpos_of_nonneg (show x ≤ 0 by omega) hr
      have e3 : r * -x = -(r * x) := Int.mul_neg ..
      omega
  obtain ⟨a1, a2, a3⟩ := ab n.1
  obtain ⟨b1, b2, b3⟩ := ab n.2
  rw [Int.mul_add]
  constructor
  · rcases a1 with a1 | a1 <;> rcases b1 with b1 | b1
    · exact ⟨(r, r), ⟨Or.inl rfl, Or.inl rfl⟩, by unfold dt; dsimp only; omega⟩
    · exact ⟨(r, -r), ⟨Or.inl rfl, Or.inr rfl⟩, by unfold dt; dsimp only; omega⟩
    · exact ⟨(-r, r), ⟨Or.inr rfl, Or.inl rfl⟩, by unfold dt; dsimp only; omega⟩
    · exact ⟨(-r, -r), ⟨Or.inr rfl, Or.inr rfl⟩, by unfold dt; dsimp only; omega⟩
  · rintro ⟨s1, s2⟩ ⟨h1, h2⟩
    dsimp only at h1 h2
    unfold dt
    dsimp only
    rcases h1 with rfl | rfl <;> rcases h2 with rfl | rfl <;> omega
theorem reach_spec (hA : SmV A) (hB : SmV B) (a0 : 0 < A.length) (b0 : 0 < B.length) (r0 : 0 ≤ r.toInt) (r5 : r.toInt ≤ 5) {n : PT} (hn : Nb n) : ((∃ t, TR A B r.toInt t ∧ (rchP A B n r).toInt = dt (zP n) t) ∧ ∀ t, TR A B r.toInt t → dt (zP n) t ≤ (rchP A B n r).toInt) ∧ -50000 ≤ (rchP A B n r).toInt ∧ (rchP A B n r).toInt ≤ 50000 := by
  obtain ⟨⟨v, v1, v2⟩, v3⟩ := hi_spec hA.bw a0 hn
  have ng : ∀ a : Int32, -40 ≤ a.toInt → a.toInt ≤ 40 → (-a).toInt = -a.toInt := fun a h1 h2 => by
    have := i32_subE (x := 0) (y := a) (by decide) (by decide) (by omega) (by omega)
    rw [Int32.zero_sub] at this
    rw [this]; show 0 - a.toInt = _; omega
  have hn' : Nb (-n.1, -n.2) := by
    obtain ⟨n1, n2, n3, n4⟩ := hn
    have e1 := ng n.1 n1 n2
    have e2 := ng n.2 n3 n4
    exact ⟨by dsimp only; omega, by dsimp only; omega, by dsimp only; omega, by dsimp only; omega⟩
  have zn : zP (-n.1, -n.2) = zs (0, 0) (zP n) := by
    obtain ⟨n1, n2, n3, n4⟩ := hn
    unfold zP zs
    dsimp only
    rw [ng n.1 n1 n2, ng n.2 n3 n4]
    apply Prod.ext <;> dsimp only <;> omega
  obtain ⟨⟨u, u1, u2⟩, u3⟩ := hi_spec hB.bw b0 hn'
  dsimp only at u2 u3
  rw [zn] at u2 u3
  have dv := (dt_i32 hn (vR_bd hA v)).2
  have du := (dt_i32 hn' (vR_bd hB u)).2
  rw [zn] at du
  have dv : -20000 ≤ dt (zP n) (zR A v) ∧ dt (zP n) (zR A v) ≤ 20000 := dv
  have du : -20000 ≤ dt (zs (0, 0) (zP n)) (zR B u) ∧ dt (zs (0, 0) (zP n)) (zR B u) ≤ 20000 := du
  obtain ⟨n1, n2, n3, n4⟩ := hn
  have z1 := sz_i32 (v := n.1) (by omega) (by omega)
  have z2 := sz_i32 (v := n.2) (by omega) (by omega)
  have ab : ∀ a : Int, -40 ≤ a → a ≤ 40 → 0 ≤ abZ a ∧ abZ a ≤ 40 := fun a h1 h2 => by unfold abZ; split <;> omega
  have a1 := ab _ n1 n2
  have a2 := ab _ n3 n4
  have s1 := i32_addE (x := szI n.1) (y := szI n.2) (by omega) (by omega) (by omega) (by omega)
  have m1 := i32_mulE (x := r) (y := szI n.1 + szI n.2) (by omega) (by omega) (by omega) (by omega)
  have s2 := i32_addE (x := hiP A n.1 n.2) (y := hiP B (-n.1) (-n.2)) (by omega) (by omega) (by omega) (by omega)
  have mb := mul_bd (a := r.toInt) (b := abZ n.1.toInt + abZ n.2.toInt) (A := 5) (B := 80) (by omega) (by omega) (by omega) (by omega)
  rw [s1, z1, z2] at m1
  have s3 := i32_addE (x := hiP A n.1 n.2 + hiP B (-n.1) (-n.2)) (y := r * (szI n.1 + szI n.2)) (by omega) (by omega) (by omega) (by omega)
  have e : (rchP A B n r).toInt = dt (zP n) (zR A v) + dt (zs (0, 0) (zP n)) (zR B u) + r.toInt * (abZ (zP n).1 + abZ (zP n).2) := by
    show (hiP A n.1 n.2 + hiP B (-n.1) (-n.2) + r * (szI n.1 + szI n.2)).toInt = _
    rw [s3, s2, m1.1, v2, u2]; rfl
  have sp : ∀ (a b s : Z2), dt (zP n) (za (zs a b) s) = dt (zP n) a + dt (zs (0, 0) (zP n)) b + dt (zP n) s := fun a b s => by
    rw [dt_neg, dt_za, dt_zs]; omega
  obtain ⟨⟨s, hs1, hs2⟩, ht⟩ := sq_top (zP n) r0
  refine ⟨⟨⟨_, ⟨v, u, s, hs1, rfl⟩, ?_⟩, ?_⟩, ?_, ?_⟩
  · rw [e, sp, hs2]
  · rintro t ⟨v', u', s', hs', rfl⟩
    rw [sp, e]
    have := v3 v'
    have := u3 u'
    have := ht s' hs'
    rw [v2] at *
    rw [u2] at *
    omega
  · rw [e]
    have : abZ (zP n).1 + abZ (zP n).2 = abZ n.1.toInt + abZ n.2.toInt := rfl
    rw [this]; omega
  · rw [e]
    have : abZ (zP n).1 + abZ (zP n).2 = abZ n.1.toInt + abZ n.2.toInt := rfl
    rw [this]; omega
/-- the set of the reference's directions -/
def NR (A B : List PT) (c : Z2) : Prop := ∃ q, q < 4 + A.length + B.length ∧ c = cN A B q
theorem ins_spec (hA : SmV A) (hB : SmV B) (a0 : 0 < A.length) (b0 : 0 < B.length) (r0 : 0 ≤ r.toInt) (r5 : r.toInt ≤ 5) (hp : Bd (x, y)) : (insP A B x y r 0 = true ↔ ∀ c, NR A B c → ∃ t, TR A B r.toInt t ∧ cr c t < cr c (zP (x, y))) ∧ (insP A B x y r 1 = true ↔ ∀ c, NR A B c → ∃ t, TR A B r.toInt t ∧ cr c t ≤ cr c (zP (x, y))) := by
  have one : ∀ q, (inQ A B x y r 0 q = true ↔ ∃ t, TR A B r.toInt t ∧ cr (cN A B q) t < cr (cN A B q) (zP (x, y))) ∧ (inQ A B x y r 1 q = true ↔ ∃ t, TR A B r.toInt t ∧ cr (cN A B q) t ≤ cr (cN A B q) (zP (x, y))) := fun q => by
    have hn := cN_bd hA hB q
    obtain ⟨⟨⟨t, t1, t2⟩, t3⟩, t4⟩ := reach_spec hA hB a0 b0 r0 r5 hn
    have d := dt_i32 hn hp
    dsimp only at d
    have z1 : (1 : Int32).toInt = 1 := by decide
    have e0 : (inQ A B x y r 0 q = true) ↔ dt (zP (nrmN A B q)) (zP (x, y)) < (rchP A B (nrmN A B q) r).toInt := by
      unfold inQ
      rw [decide_eq_true_iff, Int32.lt_iff_toInt_lt, Int32.add_zero, d.1]
    have e1 : (inQ A B x y r 1 q = true) ↔ dt (zP (nrmN A B q)) (zP (x, y)) ≤ (rchP A B (nrmN A B q) r).toInt := by
      unfold inQ
      rw [decide_eq_true_iff, Int32.lt_iff_toInt_lt, d.1, i32_addE (by omega) (by omega) (by decide) (by decide), z1]
      omega
    rw [e0, e1]
    refine ⟨⟨fun h => ⟨t, t1, ?_⟩, fun ⟨s, s1, s2⟩ => ?_⟩, ⟨fun h => ⟨t, t1, ?_⟩, fun ⟨s, s1, s2⟩ => ?_⟩⟩
    · rw [cr_cN, cr_cN]; omega
    · rw [cr_cN, cr_cN] at s2
      have := t3 s s1; omega
    · rw [cr_cN, cr_cN]; omega
    · rw [cr_cN, cr_cN] at s2
      have := t3 s s1; omega
  unfold insP
  rw [List.all_eq_true, List.all_eq_true]
  refine ⟨⟨fun h c hc => ?_, fun h q hq => ?_⟩, ⟨fun h c hc => ?_, fun h q hq => ?_⟩⟩
  · obtain ⟨q, hq, rfl⟩ := hc
    exact (one q).1.mp (h q (List.mem_range.mpr hq))
  · exact (one q).1.mpr (h _ ⟨q, List.mem_range.mp hq, rfl⟩)
  · obtain ⟨q, hq, rfl⟩ := hc
    exact (one q).2.mp (h q (List.mem_range.mpr hq))
  · exact (one q).2.mpr (h _ ⟨q, List.mem_range.mp hq, rfl⟩)
end RI
