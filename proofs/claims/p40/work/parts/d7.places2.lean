/-! placing turned, clearance, layouts go on alike -/
section P2
variable {M : Nat → SH} {σ : SV} {ρ : RV} {vs : List SV} {ps : List RV}
theorem qtN_ne {S : SH} (h : S ≠ []) (j : Nat) : qtN j S ≠ [] := List.length_pos_iff.mp (by rw [qtN_len]; exact List.length_pos_iff.mpr h)
theorem find_np (H : StR M σ ρ) {S S' : SH} (h : SR S S') (ne : S ≠ []) {k : Nat × Nat} (e : rFind ρ S' = some k) : Np (atB (bxR S' ρ.2.2.1 ρ.2.2.2.1) k) := by
  have b := (box_sm (c := ρ.2.2.2.2) (w := ρ.2.2.1) (hh := ρ.2.2.2.1) h ne H.2.2.1.2).2 k
  rw [← bx_eq h ne] at b
  exact b (find_ok e).2
theorem bt_inv (H : StR M σ ρ) {S S' : SH} (h : SR S S') (ne : S ≠ []) : ∀ t, t ≤ 4 → ((btP M σ S t).1 = 4 ∧ (rTB ρ S' t).1 = -1000009 ∧ (rTB ρ S' t).2.2 = (100000, 100000)) ∨ ∃ j, j < 4 ∧ (btP M σ S t).1 = Int32.ofNat j ∧ (rTB ρ S' t).1 = Int32.ofNat j ∧ (btP M σ S t).2 = (rTB ρ S' t).2.2 ∧ ∃ q, rFind ρ (qtN j S') = some q ∧ (rTB ρ S' t).2.1 = rTv ρ (qtN j S') q := fun t => by
  induction t with
  | zero => intro _; exact Or.inl ⟨rfl, rfl, rfl⟩
  | succ t ih =>
    intro ht
    have ih := ih (by omega)
    rw [btP_succ, rTB_succ]
    have hq := h.qtNr t
    have nq := qtN_ne ne t
    obtain ⟨b1, b2⟩ := H.bl hq nq
    obtain ⟨⟨-, -, x1, x2⟩, -, -, ⟨r1, r2⟩, t1, t2⟩ := box_eq hq nq
    generalize btP M σ S t = b at *
    generalize rTB ρ S' t = s at *
    unfold btStep rTs
    rw [tnS_qt (by omega), b1]
    cases f : rFind ρ (qtN t S') with
    | none => exact ih
    | some k =>
      dsimp only
      have np := find_np H hq nq f
      have ep : plS σ (qtN t S) k = rTv ρ (qtN t S') k := by unfold plS rTv; rw [b2]
      have et : (plS σ (qtN t S) k).2 + (bxS (qtN t S)).2.2.2 = (rTe (qtN t S') (rTv ρ (qtN t S') k)).1 := by
        rw [ep]; unfold rTe bxS; rw [x2]
      have er : (plS σ (qtN t S) k).1 + (bxS (qtN t S)).2.2.1 = (rTe (qtN t S') (rTv ρ (qtN t S') k)).2 := by
        rw [ep]; unfold rTe bxS; rw [x1]
      rw [et, er]
      have new : ((Int32.ofNat t, (rTe (qtN t S') (rTv ρ (qtN t S') k)).1, (rTe (qtN t S') (rTv ρ (qtN t S') k)).2) : BT).1 = 4 ∧ ((Int32.ofNat t, rTv ρ (qtN t S') k, rTe (qtN t S') (rTv ρ (qtN t S') k)) : TS).1 = -1000009 ∧ ((Int32.ofNat t, rTv ρ (qtN t S') k, rTe (qtN t S') (rTv ρ (qtN t S') k)) : TS).2.2 = (100000, 100000) ∨ ∃ j, j < 4 ∧ ((Int32.ofNat t, (rTe (qtN t S') (rTv ρ (qtN t S') k)).1, (rTe (qtN t S') (rTv ρ (qtN t S') k)).2) : BT).1 = Int32.ofNat j ∧ ((Int32.ofNat t, rTv ρ (qtN t S') k, rTe (qtN t S') (rTv ρ (qtN t S') k)) : TS).1 = Int32.ofNat j ∧ ((Int32.ofNat t, (rTe (qtN t S') (rTv ρ (qtN t S') k)).1, (rTe (qtN t S') (rTv ρ (qtN t S') k)).2) : BT).2 = ((Int32.ofNat t, rTv ρ (qtN t S') k, rTe (qtN t S') (rTv ρ (qtN t S') k)) : TS).2.2 ∧ ∃ q, rFind ρ (qtN j S') = some q ∧ ((Int32.ofNat t, rTv ρ (qtN t S') k, rTe (qtN t S') (rTv ρ (qtN t S') k)) : TS).2.1 = rTv ρ (qtN j S') q := Or.inr ⟨t, by omega, rfl, rfl, rfl, k, f, rfl⟩
      rcases ih with ⟨i1, i2, i3⟩ | ⟨j, j1, j2, j3, j4, j5⟩
      · have lt : (rTe (qtN t S') (rTv ρ (qtN t S') k)).1 < s.2.2.1 := by
          rw [i3]
          obtain ⟨p1, p2, p3, p4⟩ := np
          show (rTv ρ (qtN t S') k).2 + hgP (qtN t S') 0 1 < 100000
          have z : (100000 : Int32).toInt = 100000 := by decide
          have p3 : -50 ≤ (rTv ρ (qtN t S') k).2.toInt := p3
          have p4 : (rTv ρ (qtN t S') k).2.toInt ≤ 50 := p4
          rw [Int32.lt_iff_toInt_lt, z, x2, i32_addE (by omega) (by omega) (by omega) (by omega)]
          omega
        rw [if_pos (Or.inl i1), if_pos (Or.inl lt)]
        exact new
      · have n4 : ¬ b.1 = 4 := fun q => by
          rw [j2] at q
          have := i32_inj (n := 4) (by omega) (by omega) q
          omega
        have e1 : b.2.1 = s.2.2.1 := congrArg Prod.fst j4
        have e2 : b.2.2 = s.2.2.2 := congrArg Prod.snd j4
        by_cases c : (rTe (qtN t S') (rTv ρ (qtN t S') k)).1 < s.2.2.1 ∨ (rTe (qtN t S') (rTv ρ (qtN t S') k)).1 = s.2.2.1 ∧ (rTe (qtN t S') (rTv ρ (qtN t S') k)).2 < s.2.2.2
        · rw [if_pos c, if_pos (Or.inr (by rw [e1, e2]; exact c))]
          exact new
        · rw [if_neg c, if_neg fun q => by
            rcases q with q | q
            · exact n4 q
            · rw [e1, e2] at q; exact c q]
          exact Or.inr ⟨j, j1, j2, j3, j4, j5⟩
theorem q_placeT (H : Ful M σ vs ρ ps) {b : Nat} (hb : ∀ a, Liv σ vs a → a ≠ b) (cs : List Int32) (x : Int32) : Ful5 (cPlaceT cs σ vs M b x) ((rPlaceT ρ ps x).1, cs, (rPlaceT ρ ps x).2) := by
  obtain ⟨e, z, ok⟩ := err_eq H.1 x
  unfold cPlaceT rPlaceT
  by_cases c : cErr M σ x = 0
  · rw [if_pos c, if_pos (z.mp c)]
    obtain ⟨o1, o2, o3⟩ := ok c
    have s := H.1.sl o1
    rcases bt_inv H.1 s.1 o2 4 (Nat.le_refl _) with ⟨i1, i2, -⟩ | ⟨j, j1, j2, j3, j4, q, q1, q2⟩
    · rw [i1, i2, if_neg (by decide), if_pos rfl]
      exact ⟨rfl, rfl, H⟩
    · rw [j2, j3, q2]
      have lt : Int32.ofNat j < 4 := (i32_ltn (j := 4) (by omega) (by omega)).mpr j1
      have ne : ¬ Int32.ofNat j = -1000009 := fun q => by
        have := congrArg Int32.toInt q
        rw [i32_lt (by omega)] at this
        have z1 : (-1000009 : Int32).toInt = -1000009 := by decide
        omega
      rw [if_pos lt, if_neg ne, tnS_qt j1, show nx (Int32.ofNat j) = j from i32_n (by omega)]
      have U := H.upd (S := qtN j (slM M σ (nx x))) hb
      have u := (q_bl U (q := b) (S' := qtN j (slR ρ x)) (by rw [updM_self, qtN_len]; exact ⟨s.1.qtNr j, s.2⟩) (by rw [updM_self]; exact qtN_ne o2 j) o3).2 q q1
      exact ⟨u.1, rfl, u.2⟩
  · rw [if_neg c, if_neg fun q => c (z.mpr q)]; exact ⟨e, rfl, H⟩
/-! the clearance -/
theorem hit_sym (H : StR M σ ρ) {c : Int32} (c0 : 0 ≤ c.toInt) (c5 : c.toInt ≤ 5) {a b : Nat} (ha : a < σ.2.1.length) (hb : b < σ.2.1.length) : rHit ρ c a b = rHit ρ c b a := by
  obtain ⟨a1, -, -, a5⟩ := H.it ha
  obtain ⟨b1, -, -, b5⟩ := H.it hb
  unfold rHit
  rw [(any_sym a1.rp b1.rp c0 c5 (np_sub b5 a5).1).1, Int32.neg_sub, Int32.neg_sub]
theorem q_clr (H : Ful M σ vs ρ ps) (r : Int32) : (cClr M σ vs r).1 = (rClr ρ ps r).1 ∧ Ful M (cClr M σ vs r).2.1 (cClr M σ vs r).2.2 (rClr ρ ps r).2.1 (rClr ρ ps r).2.2 := by
  have iff : (¬ r < 0 ∧ r ≤ 5) ↔ inP r 0 5 := ⟨fun h => ⟨h.1, i32_not_lt.mpr h.2⟩, fun h => ⟨h.1, i32_not_lt.mp h.2⟩⟩
  have n := H.1.n
  obtain ⟨e, wq⟩ := H.1.2.2.1
  have e1 : σ.2.2.1 = ρ.2.2.1 := congrArg Prod.fst e
  have e2 : σ.2.2.2.1 = ρ.2.2.2.1 := congrArg (fun q => q.2.1) e
  have e3 : σ.2.2.2.2 = ρ.2.2.2.2 := congrArg (fun q => q.2.2) e
  unfold cClr rClr
  by_cases c : inP r 0 5
  · rw [ifC_pos (iff.mpr c), ifC_pos c]
    have c' := iff.mpr c
    have z0 : (0 : Int32).toInt = 0 := by decide
    have z5 : (5 : Int32).toInt = 5 := by decide
    have r0 : 0 ≤ r.toInt := by have := c'.1; rw [Int32.lt_iff_toInt_lt, z0] at this; omega
    have r5 : r.toInt ≤ 5 := by have := c'.2; rw [Int32.le_iff_toInt_le, z5] at this; exact this
    have wq' : Whc (ρ.2.2.1, ρ.2.2.2.1, r) := ⟨wq.1, r0, r5⟩
    have same : ((List.range σ.2.1.length).all (fitK M (σ.1, σ.2.1, σ.2.2.1, σ.2.2.2.1, r)) = true) ↔ rClrB ρ r = true := by
      have one : ∀ k, k < σ.2.1.length → (fitK M (σ.1, σ.2.1, σ.2.2.1, σ.2.2.2.1, r) k = true ↔ ∀ i, i < σ.2.1.length → i ≠ k → rHit ρ r i k = false) := fun k hk => by
        obtain ⟨a1, a2, ⟨a3, a4⟩, a5⟩ := H.1.it hk
        have f : fitK M (σ.1, σ.2.1, σ.2.2.1, σ.2.2.2.1, r) k = rFit (ρ.1, ρ.2.1, ρ.2.2.1, ρ.2.2.2.1, r) (rit ρ k).1 (rit ρ k).2.1 (rit ρ k).2.2 (Int32.ofNat k) := by
          show freeP (obsP M σ.2.1 (itM M σ k) r (Int32.ofNat k)) (bxP (itM M σ k) σ.2.2.1 σ.2.2.2.1) (iX σ k) (iY σ k) = _
          rw [e1, e2, a3, a4]
          exact fit_eq (sl := ρ.1) H.1.2.1.1 a1 a2 a5.nr wq' fun i _ => Iff.rfl
        rw [f]
        unfold rFit
        rw [H.1.2.2.2 k (by rw [← n.1]; exact hk), Bool.true_and, List.all_eq_true]
        show (∀ i, i ∈ List.range ρ.2.1.length → _) ↔ _
        rw [← n.1]
        constructor
        · intro h i hi ne
          have := h i (List.mem_range.mpr hi)
          unfold rOff at this
          rw [decide_eq_false fun q => ne (i32_inj (by omega) (by omega) q), Bool.false_or] at this
          have t : (!rHit ρ r i k) = true := this
          simpa using t
        · intro h i hi
          have hi := List.mem_range.mp hi
          unfold rOff
          by_cases q : i = k
          · rw [q, decide_eq_true rfl]; rfl
          · have t := h i hi q
            show (_ || !rHit ρ r i k) = true
            rw [t]; simp
      rw [List.all_eq_true]
      unfold rClrB
      rw [List.all_eq_true, ← n.1]
      constructor
      · intro h a ha
        have ha' := List.mem_range.mp ha
        rw [List.all_eq_true]
        intro b hb
        have hb' := List.mem_range.mp hb
        have t := (one b (by omega)).mp (h b (List.mem_range.mpr (by omega))) a ha' (by omega)
        rw [t]; rfl
      · intro h k hk
        have hk := List.mem_range.mp hk
        refine (one k hk).mpr fun i hi ne => ?_
        have g : ∀ a b, b < a → a < σ.2.1.length → rHit ρ r a b = false := fun a b h1 h2 => by
          have t := h a (List.mem_range.mpr h2)
          rw [List.all_eq_true] at t
          have t := t b (List.mem_range.mpr h1)
          simpa using t
        rcases Nat.lt_or_gt_of_ne ne with q | q
        · rw [hit_sym H.1 r0 r5 hi hk]; exact g k i q hk
        · exact g i k q hi
    by_cases d : rClrB ρ r = true
    · rw [if_pos (same.mpr d), if_pos d]
      refine ⟨e3, H.push ⟨H.1.1, H.1.2.1, ⟨?_, wq'⟩, H.1.2.2.2⟩⟩
      dsimp only
      rw [e1, e2]
    · rw [if_neg fun q => d (same.mp q), if_neg d]; exact ⟨rfl, H⟩
  · rw [ifC_neg fun q => c (iff.mp q), ifC_neg c]; exact ⟨rfl, H⟩
/-! layouts -/
theorem dgV_b (cs : List Int32) (p : Nat) : (-1 ≤ (dgV cs p).toInt ∧ (dgV cs p).toInt ≤ 9) := by
  unfold dgV
  by_cases c : dgB cs p = true
  · rw [if_pos c]
    unfold dgB at c
    have c := of_decide_eq_true c
    rw [Int32.lt_iff_toInt_lt, Int32.le_iff_toInt_le] at c
    have z1 : (48 : Int32).toInt = 48 := by decide
    have z2 : (57 : Int32).toInt = 57 := by decide
    rw [z1, z2] at c
    rw [i32_subE (by omega) (by omega) (by decide) (by decide), z1]
    omega
  · rw [if_neg c]; decide
theorem plV_b (cs : List Int32) (p : Nat) : -100 ≤ (plV cs p).toInt ∧ (plV cs p).toInt ≤ 100 := by
  have a := dgV_b cs (accP cs 45 p)
  have b := dgV_b cs (accP cs 45 p + 1)
  have v : ∀ w : Int32, -100 ≤ w.toInt → w.toInt ≤ 100 → -100 ≤ (sgnP cs p * w).toInt ∧ (sgnP cs p * w).toInt ≤ 100 := fun w h1 h2 => by
    unfold sgnP
    split
    · have m := i32_mulE (x := -1) (y := w) (by decide) (by decide) (by omega) (by omega)
      have z : (-1 : Int32).toInt = -1 := by decide
      rw [m.1, z]; omega
    · have m := i32_mulE (x := 1) (y := w) (by decide) (by decide) (by omega) (by omega)
      have z : (1 : Int32).toInt = 1 := by decide
      rw [m.1, z]; omega
  unfold plV
  refine v _ ?_ ?_ <;> split
  · omega
  · split
    · have m := i32_mulE (x := 10) (y := dgV cs (accP cs 45 p)) (by decide) (by decide) (by omega) (by omega)
      have z : (10 : Int32).toInt = 10 := by decide
      rw [i32_addE (by rw [m.1]; omega) (by rw [m.1]; omega) (by omega) (by omega), m.1, z]; omega
    · omega
  · omega
  · split
    · have m := i32_mulE (x := 10) (y := dgV cs (accP cs 45 p)) (by decide) (by decide) (by omega) (by omega)
      have z : (10 : Int32).toInt = 10 := by decide
      rw [i32_addE (by rw [m.1]; omega) (by rw [m.1]; omega) (by omega) (by omega), m.1, z]; omega
    · omega
theorem ly_nr {cs : List Int32} : ∀ {t p : Nat} {L : List LI}, (∀ v, v ∈ L → Nr v.2) → ∀ v, v ∈ (lyGo cs t p L).2.2 → Nr v.2 := fun {t} => by
  induction t with
  | zero => intro p L h; exact h
  | succ t ih =>
    intro p L h
    rw [lyGo_succ]
    split
    · exact h
    · split
      · refine ih fun v hv => ?_
        rcases List.mem_append.mp hv with q | q
        · exact h v q
        · rw [List.mem_singleton] at q
          subst q
          have a := plV_b cs (lM1 cs (skp cs p))
          have b := plV_b cs (lM3 cs (skp cs p))
          exact ⟨a.1, a.2, b.1, b.2⟩
      · exact h
theorem rll_len : ∀ (L : List LI) (acc its : List RI), acc.length ≤ 8 → rllGo ρ L acc = some its → its.length = acc.length + L.length ∧ its.length ≤ 8 := fun L => by
  induction L with
  | nil => intro acc its h8 h; cases h; exact ⟨rfl, h8⟩
  | cons v L ih =>
    intro acc its h8 h
    unfold rllGo at h
    split at h
    · rename_i c
      have := ih _ _ (by rw [List.length_append, List.length_singleton]; omega) h
      rw [List.length_append, List.length_singleton] at this
      rw [List.length_cons]; omega
    · exact absurd h (by simp)
theorem ll_eq (H : StR M σ ρ) : ∀ (L : List LI) (acc : List IT) (rac : List RI), (∀ v, v ∈ L → Slt v.1 ∧ Nr v.2) → StR M (σ.1, acc, σ.2.2) (ρ.1, rac, ρ.2.2) → acc.length + L.length ≤ 8 → (llGo M σ L acc = none ∧ rllGo ρ L rac = none) ∨ ∃ its ris, llGo M σ L acc = some its ∧ rllGo ρ L rac = some ris ∧ StR M (σ.1, its, σ.2.2) (ρ.1, ris, ρ.2.2) ∧ its.length = acc.length + L.length := fun L => by
  induction L with
  | nil => intro acc rac _ h _; exact Or.inr ⟨acc, rac, rfl, rfl, h, rfl⟩
  | cons v L ih =>
    intro acc rac hv h h8
    rw [List.length_cons] at h8
    obtain ⟨v1, v2⟩ := hv v (List.mem_cons_self ..)
    have s := H.sl v1
    have n := h.n
    have n : acc.length = rac.length := n.1
    unfold llGo rllGo
    by_cases e : slM M σ (nx v.1) = []
    · rw [if_neg fun q => by rw [e] at q; exact absurd q.1 (by decide), if_neg fun q => by rw [s.1.nil.mp e] at q; exact absurd q.1 (by decide)]
      exact Or.inl ⟨rfl, rfl⟩
    · have ie : (slM M σ (nx v.1)).isEmpty = false := by
        cases q : slM M σ (nx v.1) with
        | nil => exact absurd q e
        | cons a l => rfl
      have ir : (slR ρ v.1).isEmpty = false := by
        cases q : slR ρ v.1 with
        | nil => exact absurd (s.1.nil.mpr q) e
        | cons a l => rfl
      have f := h.fitS s.1 e v2
      by_cases d : rFit (ρ.1, rac, ρ.2.2) (slR ρ v.1) v.2.1 v.2.2 (-1000009) = true
      · rw [if_pos ⟨ie, f.trans d⟩, if_pos ⟨ir, by omega, d⟩]
        have st := h.add (q := σ.1.getD (nx v.1) 0) (S' := slR ρ v.1) (v := v.2) s e (by show acc.length < 8; omega) v2 (fit_con d)
        have r := ih (acc ++ [(σ.1.getD (nx v.1) 0, v.2)]) (rac ++ [(slR ρ v.1, v.2.1, v.2.2)]) (fun w hw => hv w (List.mem_cons_of_mem _ hw)) st (by rw [List.length_append, List.length_singleton]; omega)
        rcases r with r | ⟨its, ris, r1, r2, r3, r4⟩
        · exact Or.inl r
        · rw [List.length_append, List.length_singleton] at r4
          exact Or.inr ⟨its, ris, r1, r2, r3, by rw [List.length_cons]; omega⟩
      · rw [if_neg fun q => d (f.symm.trans q.2), if_neg fun q => d q.2.2]
        exact Or.inl ⟨rfl, rfl⟩
theorem q_lay (H : Ful M σ vs ρ ps) (cs : List Int32) : (cLay M cs σ vs).1 = (rLay cs ρ ps).1 ∧ (cLay M cs σ vs).2.1 = (rLay cs ρ ps).2.1 ∧ Ful M (cLay M cs σ vs).2.2.1 (cLay M cs σ vs).2.2.2 (rLay cs ρ ps).2.2.1 (rLay cs ρ ps).2.2.2 := by
  unfold cLay rLay
  by_cases c : (lyR cs).1 = true
  · rw [if_pos c, if_pos c]
    have hv : ∀ v, v ∈ (lyR cs).2.2 → Slt v.1 ∧ Nr v.2 := fun v hv => ⟨by unfold lyR at hv; exact ly_slt (fun w hw => absurd hw List.not_mem_nil) v hv, by unfold lyR at hv; exact ly_nr (fun w hw => absurd hw List.not_mem_nil) v hv⟩
    generalize (lyR cs).2.2 = L at *
    by_cases d : L.length ≤ 8
    · rw [if_pos d]
      have s0 : StR M (σ.1, [], σ.2.2) (ρ.1, [], ρ.2.2) := ⟨H.1.1, ⟨⟨rfl, fun i hi => by simp at hi⟩, Nat.zero_le _⟩, H.1.2.2.1, fun i hi => by simp at hi⟩
      rcases ll_eq H.1 L [] [] hv s0 (by simp; exact d) with ⟨r1, r2⟩ | ⟨its, ris, r1, r2, r3, r4⟩
      · rw [r1, r2]; exact ⟨rfl, rfl, H⟩
      · rw [r1, r2]
        rw [List.length_nil, Nat.zero_add] at r4
        exact ⟨by dsimp only; rw [r4], rfl, H.push r3⟩
    · rw [if_neg d]
      have none : rllGo ρ L [] = none := by
        cases q : rllGo ρ L [] with
        | none => rfl
        | some its =>
          have := rll_len L [] its (Nat.zero_le _) q
          rw [List.length_nil, Nat.zero_add] at this
          omega
      rw [none]; exact ⟨rfl, rfl, H⟩
  · rw [if_neg c, if_neg c]; exact ⟨rfl, rfl, H⟩
end P2
