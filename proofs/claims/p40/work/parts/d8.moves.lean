/-! sliding and compaction go on alike -/
section MV
variable {M : Nat → SH} {σ : SV} {ρ : RV} {vs : List SV} {ps : List RV} {k : Nat} {d : Int32}
theorem psnZ : psn ρ k d 0 = (rit ρ k).2 := by
  unfold psn
  rw [show Int32.ofNat 0 = 0 from rfl, Int32.zero_mul, Int32.zero_mul, Int32.add_zero, Int32.add_zero]
theorem psnS (t : Nat) : psn ρ k d (t + 1) = ((psn ρ k d t).1 + dxR d, (psn ρ k d t).2 + dyR d) := by
  unfold psn
  dsimp only
  rw [← i32_s, Int32.add_mul, Int32.add_mul, Int32.one_mul, Int32.one_mul, Int32.add_assoc, Int32.add_assoc]
theorem psn_np (hd : Dirn d) {t : Nat} (h : Np (psn ρ k d t)) : Nr (psn ρ k d (t + 1)) := by
  obtain ⟨⟨e1, e2, e3, e4⟩, -⟩ := (dir_eq hd).2.2.1
  obtain ⟨a, b, c, e⟩ := h
  dsimp only at e1 e2 e3 e4
  rw [psnS]
  have s1 := i32_addE (x := (psn ρ k d t).1) (y := dxR d) (by omega) (by omega) (by omega) (by omega)
  have s2 := i32_addE (x := (psn ρ k d t).2) (y := dyR d) (by omega) (by omega) (by omega) (by omega)
  exact ⟨by dsimp only; omega, by dsimp only; omega, by dsimp only; omega, by dsimp only; omega⟩
theorem psn_int (hd : Dirn d) (h : Np (rit ρ k).2) {t : Nat} (ht : t ≤ 200) : (psn ρ k d t).1.toInt = (rit ρ k).2.1.toInt + t * (dxR d).toInt ∧ (psn ρ k d t).2.toInt = (rit ρ k).2.2.toInt + t * (dyR d).toInt := by
  obtain ⟨⟨e1, e2, e3, e4⟩, -⟩ := (dir_eq hd).2.2.1
  obtain ⟨a, b, c, e⟩ := h
  dsimp only at e1 e2 e3 e4
  have l := i32_lt (j := t) (by omega)
  have m1 := i32_mulE (x := Int32.ofNat t) (y := dxR d) (by omega) (by omega) (by omega) (by omega)
  have m2 := i32_mulE (x := Int32.ofNat t) (y := dyR d) (by omega) (by omega) (by omega) (by omega)
  have b1 := mul_bd (a := (t : Int)) (b := (dxR d).toInt) (A := 200) (B := 1) (by omega) (by omega) (by omega) (by omega)
  have b2 := mul_bd (a := (t : Int)) (b := (dyR d).toInt) (A := 200) (B := 1) (by omega) (by omega) (by omega) (by omega)
  rw [l] at m1 m2
  unfold psn
  dsimp only
  rw [i32_addE (by omega) (by omega) (by omega) (by omega), i32_addE (by omega) (by omega) (by omega) (by omega), m1.1, m2.1]
  exact ⟨rfl, rfl⟩
/-- an item slides as far in the class as in the reference -/
theorem mv_gen (H : StR M σ ρ) (hk : k < σ.2.1.length) (hd : Dirn d) {Os : List (List PT)} {bx : BX} (hf : ∀ x y, Nr (x, y) → freeP Os bx x y = rFit ρ (rit ρ k).1 x y (Int32.ofNat k)) : ∃ n, n ≤ 100 ∧ SlE ρ k d n ∧ mvN Os bx d (rit ρ k).2.1 (rit ρ k).2.2 = (n, psn ρ k d n) ∧ Np (psn ρ k d n) ∧ rCon (rit ρ k).1 ρ.2.2.1 ρ.2.2.2.1 (psn ρ k d n).1 (psn ρ k d n).2 = true := by
  obtain ⟨a1, a2, ⟨a3, a4⟩, a5⟩ := H.it hk
  have con0 := H.2.2.2 k (by rw [← H.n.1]; exact hk)
  have D := dir_eq hd
  -- positions that fit are near
  have near : ∀ t, (∀ j, j < t → rFitT ρ k d (j + 1) = true) → Np (psn ρ k d t) ∧ rCon (rit ρ k).1 ρ.2.2.1 ρ.2.2.2.1 (psn ρ k d t).1 (psn ρ k d t).2 = true := fun t => by
    induction t with
    | zero => intro _; rw [psnZ]; exact ⟨a5, con0⟩
    | succ t ih =>
      intro h
      have i := (ih fun j hj => h j (by omega)).1
      have f := fit_con (h t (by omega))
      exact ⟨(con_iff (c := ρ.2.2.2.2) a1 a2 (x := (psn ρ k d (t + 1)).1) (y := (psn ρ k d (t + 1)).2) (psn_np hd i) H.2.2.1.2).2 f, f⟩
  have ex : ∃ t, rFitT ρ k d (t + 1) = false := by
    by_cases c : ∃ t, rFitT ρ k d (t + 1) = false
    · exact c
    · exfalso
      have np := (near 101 fun j _ => by
        by_cases q : rFitT ρ k d (j + 1) = true
        · exact q
        · exact absurd ⟨j, by simpa using q⟩ c).1
      obtain ⟨i1, i2⟩ := psn_int (t := 101) hd a5 (by omega)
      obtain ⟨⟨e1, e2, e3, e4⟩, e5⟩ := D.2.2.1
      obtain ⟨p1, p2, p3, p4⟩ := np
      obtain ⟨q1, q2, q3, q4⟩ := a5
      dsimp only at e1 e2 e3 e4 e5
      have hx : (dxR d).toInt = 0 ∨ (dxR d).toInt = 1 ∨ (dxR d).toInt = -1 := by omega
      have hy : (dyR d).toInt = 0 ∨ (dyR d).toInt = 1 ∨ (dyR d).toInt = -1 := by omega
      rcases hx with hx | hx | hx
      · rcases hy with hy | hy | hy
        · exact e5 ⟨hx, hy⟩
        · rw [hy] at i2; omega
        · rw [hy] at i2; omega
      · rw [hx] at i1; omega
      · rw [hx] at i1; omega
  obtain ⟨n, n1, n2⟩ := first_such ex
  have all : ∀ t, t < n → rFitT ρ k d (t + 1) = true := fun t ht => by
    have := n2 t ht
    simpa using this
  have N := near n all
  have le : n ≤ 100 := by
    by_cases c : n ≤ 100
    · exact c
    · exfalso
      have np := (near 101 fun j hj => all j (by omega)).1
      obtain ⟨i1, i2⟩ := psn_int (t := 101) hd a5 (by omega)
      obtain ⟨⟨e1, e2, e3, e4⟩, e5⟩ := D.2.2.1
      obtain ⟨p1, p2, p3, p4⟩ := np
      obtain ⟨q1, q2, q3, q4⟩ := a5
      dsimp only at e1 e2 e3 e4 e5
      have hx : (dxR d).toInt = 0 ∨ (dxR d).toInt = 1 ∨ (dxR d).toInt = -1 := by omega
      have hy : (dyR d).toInt = 0 ∨ (dyR d).toInt = 1 ∨ (dyR d).toInt = -1 := by omega
      rcases hx with hx | hx | hx
      · rcases hy with hy | hy | hy
        · exact e5 ⟨hx, hy⟩
        · rw [hy] at i2; omega
        · rw [hy] at i2; omega
      · rw [hx] at i1; omega
      · rw [hx] at i1; omega
  refine ⟨n, le, ⟨by omega, all, n1⟩, ?_, N⟩
  have go : ∀ r j T, j + r = n → r < T → mvGo Os bx (dxR d) (dyR d) T (psn ρ k d j).1 (psn ρ k d j).2 = (r, psn ρ k d n) := fun r => by
    induction r with
    | zero =>
      intro j T hj hT
      obtain ⟨T, rfl⟩ : ∃ u, T = u + 1 := ⟨T - 1, by omega⟩
      have e : j = n := by omega
      subst e
      have nr := psn_np hd N.1
      have f : freeP Os bx (psn ρ k d (j + 1)).1 (psn ρ k d (j + 1)).2 = rFit ρ (rit ρ k).1 (psn ρ k d (j + 1)).1 (psn ρ k d (j + 1)).2 (Int32.ofNat k) := hf _ _ nr
      rw [mvGo_succ]
      rw [psnS] at f
      have f' : rFit ρ (rit ρ k).1 ((psn ρ k d j).1 + dxR d) ((psn ρ k d j).2 + dyR d) (Int32.ofNat k) = false := by
        have := n1
        unfold rFitT at this
        rw [psnS] at this
        exact this
      rw [if_neg]
      rw [f.trans f']; decide
    | succ r ih =>
      intro j T hj hT
      obtain ⟨T, rfl⟩ : ∃ u, T = u + 1 := ⟨T - 1, by omega⟩
      have nj := (near j fun i hi => all i (by omega)).1
      have nr := psn_np hd nj
      have f : freeP Os bx (psn ρ k d (j + 1)).1 (psn ρ k d (j + 1)).2 = rFit ρ (rit ρ k).1 (psn ρ k d (j + 1)).1 (psn ρ k d (j + 1)).2 (Int32.ofNat k) := hf _ _ nr
      rw [mvGo_succ]
      rw [psnS] at f
      have f' : rFit ρ (rit ρ k).1 ((psn ρ k d j).1 + dxR d) ((psn ρ k d j).2 + dyR d) (Int32.ofNat k) = true := by
        have := all j (by omega)
        unfold rFitT at this
        rw [psnS] at this
        exact this
      rw [if_pos (f.trans f')]
      have i := ih (j + 1) T (by omega) (by omega)
      rw [psnS] at i
      dsimp only at i
      rw [i]
  have := go n 0 1000000 (by omega) (by omega)
  rw [psnZ] at this
  unfold mvN
  rw [D.1, D.2.1]
  exact this
theorem SlE.uni {n m : Nat} (A : SlE ρ k d n) (B : SlE ρ k d m) : n = m := by
  rcases Nat.lt_trichotomy n m with q | q | q
  · have := B.2.1 n q
    rw [A.2.2] at this; exact absurd this (by decide)
  · exact q
  · have := A.2.1 m q
    rw [B.2.2] at this; exact absurd this (by decide)
theorem slN_eq {n : Nat} (A : SlE ρ k d n) : slN ρ k d = n := (slN_spec ⟨n, A⟩).uni A
/-- an item elsewhere -/
theorem StR.set (H : StR M σ ρ) (hk : k < σ.2.1.length) {v : PT} (hp : Np v) (hc : rCon (rit ρ k).1 ρ.2.2.1 ρ.2.2.2.1 v.1 v.2 = true) : StR M (setI σ k v) (rSet ρ k v) := by
  have n := H.n
  refine ⟨H.1, ⟨⟨?_, fun i hi => ?_⟩, ?_⟩, H.2.2.1, fun i hi => ?_⟩
  · show (σ.2.1.set k _).length = (ρ.2.1.set k _).length
    rw [List.length_set, List.length_set, n.1]
  · have hi : i < (σ.2.1.set k ((itA σ.2.1 k).1, v.1, v.2)).length := hi
    rw [List.length_set] at hi
    show ItR M ((σ.2.1.set k ((itA σ.2.1 k).1, v.1, v.2)).getD i (0, 0, 0)) ((ρ.2.1.set k ((rit ρ k).1, v.1, v.2)).getD i dI)
    rw [getD_set, getD_set]
    by_cases c : k = i
    · subst c
      rw [if_pos ⟨rfl, hk⟩, if_pos ⟨rfl, by rw [← n.1]; exact hk⟩]
      obtain ⟨a, b, -, -⟩ := H.2.1.1.2 k hk
      exact ⟨a, b, rfl, hp⟩
    · rw [if_neg fun q => c q.1, if_neg fun q => c q.1]; exact H.2.1.1.2 i hi
  · show (ρ.2.1.set k _).length ≤ 8
    rw [List.length_set]; omega
  · have hi : i < (ρ.2.1.set k ((rit ρ k).1, v.1, v.2)).length := hi
    rw [List.length_set] at hi
    show rCon ((ρ.2.1.set k ((rit ρ k).1, v.1, v.2)).getD i dI).1 ρ.2.2.1 ρ.2.2.2.1 ((ρ.2.1.set k ((rit ρ k).1, v.1, v.2)).getD i dI).2.1 ((ρ.2.1.set k ((rit ρ k).1, v.1, v.2)).getD i dI).2.2 = true
    rw [getD_set]
    by_cases c : k = i
    · subst c
      rw [if_pos ⟨rfl, hi⟩]; exact hc
    · rw [if_neg fun q => c q.1]; exact H.2.2.2 i hi
theorem rSet_self (hk : k < ρ.2.1.length) : rSet ρ k (rit ρ k).2 = ρ := by
  unfold rSet
  have e : ρ.2.1.set k ((rit ρ k).1, (rit ρ k).2.1, (rit ρ k).2.2) = ρ.2.1 := by
    refine List.ext_getElem (List.length_set ..) fun i a b => ?_
    rw [List.getElem_set]
    split
    · rename_i q
      subst q
      show rit ρ k = _
      unfold rit
      rw [List.getD_eq_getElem?_getD, List.getElem?_eq_getElem b]; rfl
    · rfl
  rw [e]
theorem rit_setS (hk : k < ρ.2.1.length) (v : PT) : rit (rSet ρ k v) k = ((rit ρ k).1, v.1, v.2) := by
  show (ρ.2.1.set k _).getD k dI = _
  rw [getD_set, if_pos ⟨rfl, hk⟩]
theorem mv_free (H : StR M σ ρ) (hk : k < σ.2.1.length) {x y : Int32} (hp : Nr (x, y)) : freeP (mvO M σ k) (mvB M σ k) x y = rFit ρ (rit ρ k).1 x y (Int32.ofNat k) := by
  obtain ⟨a1, a2, -, -⟩ := H.it hk
  obtain ⟨e, wq⟩ := H.2.2.1
  have e1 : σ.2.2.1 = ρ.2.2.1 := congrArg Prod.fst e
  have e2 : σ.2.2.2.1 = ρ.2.2.2.1 := congrArg (fun q => q.2.1) e
  have e3 : σ.2.2.2.2 = ρ.2.2.2.2 := congrArg (fun q => q.2.2) e
  unfold mvO mvB
  rw [e1, e2, e3]
  exact fit_eq (sl := ρ.1) H.2.1.1 a1 a2 hp wq fun i _ => Iff.rfl
theorem fit_self (hk : k < ρ.2.1.length) (h8 : ρ.2.1.length ≤ 8) (v : PT) (S : SH) (x y : Int32) : rFit (rSet ρ k v) S x y (Int32.ofNat k) = rFit ρ S x y (Int32.ofNat k) := by
  unfold rFit
  have l : (rSet ρ k v).2.1.length = ρ.2.1.length := List.length_set ..
  rw [l]
  congr 1
  have e : ∀ i, i < ρ.2.1.length → rOff (rSet ρ k v) S x y (Int32.ofNat k) i = rOff ρ S x y (Int32.ofNat k) i := fun i hi => by
    unfold rOff
    by_cases q : i = k
    · rw [q, decide_eq_true rfl, Bool.true_or, Bool.true_or]
    · have g : (rSet ρ k v).2.1.getD i dI = ρ.2.1.getD i dI := by
        show (ρ.2.1.set k _).getD i dI = _
        rw [getD_set, if_neg fun w => q w.1.symm]
      rw [g]; rfl
  apply Bool.eq_iff_iff.mpr
  rw [List.all_eq_true, List.all_eq_true]
  exact ⟨fun h i hi => by rw [← e i (List.mem_range.mp hi)]; exact h i hi, fun h i hi => by rw [e i (List.mem_range.mp hi)]; exact h i hi⟩
theorem mv_eq (H : StR M σ ρ) (hk : k < σ.2.1.length) (hd : Dirn d) : ∃ n, n ≤ 100 ∧ SlE ρ k d n ∧ mvI M σ k d = (n, psn ρ k d n) ∧ StR M (setI σ k (psn ρ k d n)) (rSet ρ k (psn ρ k d n)) := by
  obtain ⟨a1, a2, ⟨a3, a4⟩, a5⟩ := H.it hk
  obtain ⟨n, h1, h2, h3, h4, h5⟩ := mv_gen H hk hd (Os := mvO M σ k) (bx := mvB M σ k) fun x y hp => mv_free H hk hp
  refine ⟨n, h1, h2, ?_, H.set hk h4 h5⟩
  unfold mvI
  rw [a3, a4]; exact h3
theorem setI_self (H : StR M σ ρ) (hk : k < σ.2.1.length) : StR M (setI σ k (psn ρ k d 0)) ρ := by
  obtain ⟨a1, a2, a3, a5⟩ := H.it hk
  have hk' : k < ρ.2.1.length := by rw [← H.n.1]; exact hk
  have := H.set hk a5 (H.2.2.2 k hk')
  rw [rSet_self hk'] at this
  rw [psnZ]; exact this
theorem dirn_in (d : Int32) : Dirn d ↔ inP d 0 7 := by
  have q : (8 : Int32) ≤ d ↔ (7 : Int32) < d := by
    rw [Int32.lt_iff_toInt_lt, Int32.le_iff_toInt_le]
    have z1 : (8 : Int32).toInt = 8 := by decide
    have z2 : (7 : Int32).toInt = 7 := by decide
    omega
  unfold Dirn inP
  rw [q]
theorem q_slideI (H : Ful M σ vs ρ ps) (i d : Int32) : (cSlideI M σ vs i d).1 = (rSlideI ρ ps i d (slN ρ (nx i) d)).1 ∧ Ful M (cSlideI M σ vs i d).2.1 (cSlideI M σ vs i d).2.2 (rSlideI ρ ps i d (slN ρ (nx i) d)).2.1 (rSlideI ρ ps i d (slN ρ (nx i) d)).2.2 := by
  have iff : (Itm σ i ∧ Dirn d) ↔ (RItm ρ i ∧ inP d 0 7) := by rw [H.1.itm, dirn_in]
  unfold cSlideI rSlideI
  by_cases c : Itm σ i ∧ Dirn d
  · rw [ifC_pos c, ifC_pos (iff.mp c)]
    have hk := Itm.lt H.1 c.1
    obtain ⟨n, h1, h2, h3, h4⟩ := mv_eq H.1 hk c.2
    rw [slN_eq h2, h3]
    dsimp only
    by_cases z : n = 0
    · subst z
      rw [if_pos (show Int32.ofNat 0 = 0 from rfl), if_neg (by have := h2.2.2; rw [show (0 : Nat) + 1 = 1 from rfl] at this; rw [this]; decide)]
      exact ⟨rfl, setI_self H.1 hk, H.2⟩
    · rw [if_neg fun q : Int32.ofNat n = 0 => z (i32_inj (n := 0) (by omega) (by omega) q), if_pos (h2.2.1 0 (by omega))]
      exact ⟨rfl, H.push h4⟩
  · rw [ifC_neg c, ifC_neg fun q => c (iff.mpr q)]; exact ⟨rfl, H⟩
end MV
