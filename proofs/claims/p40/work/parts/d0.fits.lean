/-! the state of the class and of the reference; where a shape fits -/
def Np (v : PT) : Prop := -50 ≤ v.1.toInt ∧ v.1.toInt ≤ 50 ∧ -50 ≤ v.2.toInt ∧ v.2.toInt ≤ 50
def ItR (M : Nat → SH) (it : IT) (ri : RI) : Prop := (SR (M it.1) ri.1 ∧ ri.1.length ≤ 3) ∧ M it.1 ≠ [] ∧ it.2 = ri.2 ∧ Np ri.2
def ItsR (M : Nat → SH) (its : List IT) (ris : List RI) : Prop := its.length = ris.length ∧ ∀ i, i < its.length → ItR M (itA its i) (ris.getD i dI)
def Whc (q : Int32 × Int32 × Int32) : Prop := ((1 ≤ q.1.toInt ∧ q.1.toInt ≤ 40) ∧ 1 ≤ q.2.1.toInt ∧ q.2.1.toInt ≤ 40) ∧ 0 ≤ q.2.2.toInt ∧ q.2.2.toInt ≤ 5
theorem Np.nr {v : PT} (h : Np v) : Nr v := by
  obtain ⟨a, b, c, d⟩ := h
  exact ⟨by omega, by omega, by omega, by omega⟩
theorem Nr.bd {v : PT} (h : Nr v) : Bd v := by
  obtain ⟨a, b, c, d⟩ := h
  exact ⟨by omega, by omega, by omega, by omega⟩
section FT
variable {M : Nat → SH} {its : List IT} {ris : List RI} {sl : List SH} {S S' : SH} {x y w hh c : Int32}
theorem hg_b (H : SR S S') (ne : S ≠ []) : ((-9 ≤ (hgP S' (-1) 0).toInt ∧ (hgP S' (-1) 0).toInt ≤ 9) ∧ -9 ≤ (hgP S' 0 (-1)).toInt ∧ (hgP S' 0 (-1)).toInt ≤ 9) ∧ (-9 ≤ (hgP S' 1 0).toInt ∧ (hgP S' 1 0).toInt ≤ 9) ∧ -9 ≤ (hgP S' 0 1).toInt ∧ (hgP S' 0 1).toInt ≤ 9 := by
  obtain ⟨⟨a, b, c, d⟩, ⟨b1, b2⟩, ⟨b3, b4⟩, ⟨b5, b6⟩, b7, b8⟩ := box_eq H ne
  have ng : ∀ a : Int32, -9 ≤ a.toInt → a.toInt ≤ 9 → (-a).toInt = -a.toInt := fun a h1 h2 => by
    have := i32_subE (x := 0) (y := a) (by decide) (by decide) (by omega) (by omega)
    rw [Int32.zero_sub] at this
    rw [this]; show 0 - a.toInt = _; omega
  rw [a, b, c, d, ng _ b1 b2, ng _ b3 b4]
  omega
theorem con_iff (H : SR S S') (ne : S ≠ []) (hp : Nr (x, y)) (hq : Whc (w, hh, c)) : (rCon S' w hh x y = true ↔ ¬ (x < (bxP S w hh).1 ∨ (bxP S w hh).2.2.1 < x ∨ y < (bxP S w hh).2.1 ∨ (bxP S w hh).2.2.2 < y)) ∧ (rCon S' w hh x y = true → Np (x, y)) := by
  rw [← bx_eq H ne]
  obtain ⟨⟨⟨a1, a2⟩, b1, b2⟩, ⟨c1, c2⟩, d1, d2⟩ := hg_b H ne
  obtain ⟨⟨⟨w1, w2⟩, w3, w4⟩, -⟩ := hq
  obtain ⟨p1, p2, p3, p4⟩ := hp
  dsimp only at p1 p2 p3 p4 w1 w2 w3 w4
  have e1 := i32_addE (x := x) (y := hgP S' 1 0) (by omega) (by omega) (by omega) (by omega)
  have e2 := i32_addE (x := y) (y := hgP S' 0 1) (by omega) (by omega) (by omega) (by omega)
  have e3 := i32_subE (x := w) (y := hgP S' 1 0) (by omega) (by omega) (by omega) (by omega)
  have e4 := i32_subE (x := hh) (y := hgP S' 0 1) (by omega) (by omega) (by omega) (by omega)
  unfold rCon bxR Np
  dsimp only
  rw [decide_eq_true_iff, Int32.lt_iff_toInt_lt, Int32.lt_iff_toInt_lt, Int32.lt_iff_toInt_lt, Int32.lt_iff_toInt_lt, Int32.lt_iff_toInt_lt, Int32.lt_iff_toInt_lt, e1, e2, e3, e4]
  constructor
  · constructor
    · rintro ⟨h1, h2, h3, h4⟩; omega
    · intro h
      exact ⟨by omega, by omega, by omega, by omega⟩
  · rintro ⟨h1, h2, h3, h4⟩
    exact ⟨by omega, by omega, by omega, by omega⟩
/-- an obstacle's polygons -/
theorem ob_all {F F' : SH} {X Y : Int32} (HF : SR F F') (H : SR S S') (hc : Nr (X, Y)) (hp : Nr (x, y)) (c0 : 0 ≤ c.toInt) (c5 : c.toInt ≤ 5) : ((obI F S X Y c).all fun O => decide (locP O x y ≠ 2)) = !anyP F' S' (x - X) (y - Y) c 0 := by
  unfold obI anyP
  rw [← HF.1, ← H.1, List.all_map]
  have e : ∀ ij, ij ∈ pre S.length F.length 0 → ((fun O : List PT => decide (locP O x y ≠ 2)) ∘ fun ij => sumP (nfP F S ij) (sqP X Y c)) ij = !anyQ F' S' (x - X) (y - Y) c 0 ij := fun ij h => by
    have m := mem_pre.mp h
    have k := nf_clr (HF.2 _ m.1) (H.2 _ m.2) hc hp c0 c5
    show decide (locP (sumP (nfQ (F.getD ij.1 []) (S.getD ij.2 [])) (sqP X Y c)) x y ≠ 2) = !insP (F'.getD ij.1 []) (S'.getD ij.2 []) (x - X) (y - Y) c 0
    by_cases q : insP (F'.getD ij.1 []) (S'.getD ij.2 []) (x - X) (y - Y) c 0 = true
    · rw [q]; exact decide_eq_false fun w => w (k.mpr q)
    · have q' : insP (F'.getD ij.1 []) (S'.getD ij.2 []) (x - X) (y - Y) c 0 = false := by simpa using q
      rw [q']; exact decide_eq_true fun w => q (k.mp w)
  generalize pre S.length F.length 0 = l at *
  induction l with
  | nil => rfl
  | cons a l ih =>
    rw [List.all_cons, List.any_cons, e a (List.mem_cons_self ..), ih fun ij h => e ij (List.mem_cons_of_mem _ h), Bool.not_or]
theorem fit_eq (R : ItsR M its ris) (H : SR S S') (ne : S ≠ []) (hp : Nr (x, y)) (hq : Whc (w, hh, c)) {ex sk : Int32} (hx : ∀ i, i < its.length → (Int32.ofNat i = ex ↔ Int32.ofNat i = sk)) : freeP (obsP M its S c ex) (bxP S w hh) x y = rFit (sl, ris, w, hh, c) S' x y sk := by
  have con := (con_iff (c := c) H ne hp hq).1
  unfold freeP rFit
  have e1 : decide (¬ (x < (bxP S w hh).1 ∨ (bxP S w hh).2.2.1 < x ∨ y < (bxP S w hh).2.1 ∨ (bxP S w hh).2.2.2 < y)) = rCon S' w hh x y := by
    by_cases q : rCon S' w hh x y = true
    · rw [q]; exact decide_eq_true (con.mp q)
    · have q' : rCon S' w hh x y = false := by simpa using q
      rw [q']; exact decide_eq_false fun k => q (con.mpr k)
  rw [e1]
  congr 1
  show (obsP M its S c ex).all _ = (List.range ris.length).all _
  unfold obsP
  rw [← R.1]
  have one : ∀ i, i < its.length → ((obK M its S c ex i).all fun O => decide (locP O x y ≠ 2)) = rOff (sl, ris, w, hh, c) S' x y sk i := fun i hi => by
    obtain ⟨⟨r1, r2⟩, r3, r4, r5⟩ := R.2 i hi
    unfold obK rOff
    by_cases q : Int32.ofNat i = ex
    · rw [if_pos q, decide_eq_true ((hx i hi).mp q)]; rfl
    · rw [if_neg q, decide_eq_false fun k => q ((hx i hi).mpr k), Bool.false_or]
      have e2 : (its.getD i (0, 0, 0)).2 = (ris.getD i dI).2 := r4
      rw [show (its.getD i (0, 0, 0)).2.1 = (ris.getD i dI).2.1 from congrArg Prod.fst e2, show (its.getD i (0, 0, 0)).2.2 = (ris.getD i dI).2.2 from congrArg Prod.snd e2]
      exact ob_all r1 H r5.nr hp hq.2.1 hq.2.2
  have go : ∀ n, n ≤ its.length → ((List.range n).flatMap (obK M its S c ex)).all (fun O => decide (locP O x y ≠ 2)) = (List.range n).all (rOff (sl, ris, w, hh, c) S' x y sk) := fun n => by
    induction n with
    | zero => intro _; rfl
    | succ n ih =>
      intro hn
      rw [List.range_succ, List.flatMap_append, List.all_append, List.all_append, ih (by omega)]
      congr 1
      rw [List.flatMap_singleton, one n (by omega), List.all_cons, List.all_nil, Bool.and_true]
  exact go its.length (Nat.le_refl _)
theorem find_cong {α : Type} {f g : α → Bool} : ∀ (l : List α), (∀ a, a ∈ l → f a = g a) → l.find? f = l.find? g := fun l => by
  induction l with
  | nil => intro _; rfl
  | cons a l ih =>
    intro h
    rw [List.find?_cons, List.find?_cons, h a (List.mem_cons_self ..), ih fun b hb => h b (List.mem_cons_of_mem _ hb)]
theorem count_cong {α : Type} {f g : α → Bool} : ∀ (l : List α), (∀ a, a ∈ l → f a = g a) → l.countP f = l.countP g := fun l => by
  induction l with
  | nil => intro _; rfl
  | cons a l ih =>
    intro h
    rw [List.countP_cons, List.countP_cons, h a (List.mem_cons_self ..), ih fun b hb => h b (List.mem_cons_of_mem _ hb)]
/-- the box of places is small, its places are near -/
theorem box_sm (H : SR S S') (ne : S ≠ []) (hq : Whc (w, hh, c)) : SmB (bxP S w hh) ∧ ∀ k, k ∈ pre (nxB (bxP S w hh)) (nyB (bxP S w hh)) 0 → Np (atB (bxP S w hh) k) := by
  rw [← bx_eq H ne]
  obtain ⟨⟨⟨a1, a2⟩, b1, b2⟩, ⟨c1, c2⟩, d1, d2⟩ := hg_b H ne
  obtain ⟨⟨⟨w1, w2⟩, w3, w4⟩, -⟩ := hq
  dsimp only at w1 w2 w3 w4
  have e3 := i32_subE (x := w) (y := hgP S' 1 0) (by omega) (by omega) (by omega) (by omega)
  have e4 := i32_subE (x := hh) (y := hgP S' 0 1) (by omega) (by omega) (by omega) (by omega)
  refine ⟨?_, fun k hk => ?_⟩
  · unfold SmB bxR
    dsimp only
    rw [e3, e4]
    omega
  · obtain ⟨k1, k2⟩ := mem_pre.mp hk
    unfold nyB bxR at k1
    unfold nxB bxR at k2
    dsimp only at k1 k2
    rw [e3] at k2
    rw [e4] at k1
    unfold Np atB bxR
    dsimp only
    have l1 := i32_lt (j := k.1) (by omega)
    have l2 := i32_lt (j := k.2) (by omega)
    rw [i32_addE (by omega) (by omega) (by omega) (by omega), i32_addE (by omega) (by omega) (by omega) (by omega), l1, l2]
    omega
/-- none is let out -/
theorem no_ex {n : Nat} (hn : n ≤ 8) : ∀ i, i < n → (Int32.ofNat i = (-1 : Int32) ↔ Int32.ofNat i = (-1000009 : Int32)) := fun i hi => by
  have h := i32_lt (j := i) (by omega)
  have z1 : (-1 : Int32).toInt = -1 := by decide
  have z2 : (-1000009 : Int32).toInt = -1000009 := by decide
  rw [← Int32.toInt_inj, ← Int32.toInt_inj, h, z1, z2]
  omega
theorem frB_eq (R : ItsR M its ris) (h8 : its.length ≤ 8) (H : SR S S') (ne : S ≠ []) (hq : Whc (w, hh, c)) : ∀ k, k ∈ pre (nxB (bxP S w hh)) (nyB (bxP S w hh)) 0 → frB (obsP M its S c (-1)) (bxP S w hh) k = rFB (sl, ris, w, hh, c) S' k := fun k hk => by
  have np := (box_sm H ne hq).2 k hk
  unfold frB rFB
  show _ = rFit (sl, ris, w, hh, c) S' (atB (bxR S' w hh) k).1 (atB (bxR S' w hh) k).2 (-1000009)
  rw [bx_eq H ne]
  exact fit_eq R H ne np.nr hq (no_ex h8)
/-- the bottom-left place, and the number of places -/
theorem find_eq (R : ItsR M its ris) (h8 : its.length ≤ 8) (H : SR S S') (ne : S ≠ []) (hq : Whc (w, hh, c)) : blP (obsP M its S c (-1)) (bxP S w hh) = rFind (sl, ris, w, hh, c) S' ∧ cntP (obsP M its S c (-1)) (bxP S w hh) = (pre (nxB (bxR S' w hh)) (nyB (bxR S' w hh)) 0).countP (rFB (sl, ris, w, hh, c) S') := by
  have e := frB_eq (sl := sl) R h8 H ne hq
  unfold blP rFind cntP
  show _ = (pre (nxB (bxR S' w hh)) (nyB (bxR S' w hh)) 0).find? _ ∧ _
  rw [bx_eq H ne]
  exact ⟨find_cong _ e, count_cong _ e⟩
end FT
