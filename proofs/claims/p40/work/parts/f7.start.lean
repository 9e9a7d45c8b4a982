/-! the start -/
theorem eqi {args : Array Value} {s : State} {t : Term} {z : Int32} (h : (Cond.eq t (.int z)).before args s = true) : t.eval args s none [] s = some (.int z) := by
  cases hv : t.eval args s none [] s with
  | none => simp [Cond.before, Cond.holds, Cond.value, hv] at h
  | some w =>
    have hz : (Term.int z).eval args s none [] s = some (.int z) := rfl
    simp only [Cond.before, Cond.holds, Cond.value, hv, hz] at h
    cases w <;> simp_all
theorem st_X {args : Array Value} {s : State} {t : Term} {z : Nat → Int32} (h1 : (Cond.arrayOf t .int).before args s = true) (h2 : (Cond.eq (.length t) (.int 8)).before args s = true) (h3 : ∀ j, j < 8 → (Cond.eq (.elem t (.int (Int32.ofNat j))) (.int (z j))).before args s = true) : ∃ b, t.eval args s none [] s = some (.ref b) ∧ b < s.heap.size ∧ va_X b 8 z s s.heap := by
  obtain ⟨a, cell, ha, hc, hv⟩ := Term.length_spec (eqi h2)
  obtain ⟨hcb, hkn, -, -⟩ := State.arrayAt?_spec hc
  have hof := Cond.arrayOf_spec h1 ha hcb
  have hel : ∀ j, j < 8 → j < cell.slots.size ∧ cell.slots[j]? = some (.int (z j)) := fun j hj => by
    obtain ⟨a', j', cell', q1, q2, q3, q4, q5⟩ := Term.elem_spec (eqi (h3 j hj))
    rw [ha] at q1; cases q1
    rw [hc] at q3; cases q3
    cases q2
    rw [i32_n (by omega)] at q5 q4
    exact ⟨by omega, q5⟩
  have hsz : cell.slots.size < 2147483648 := by
    by_cases p : cell.slots.size < 2147483648
    · exact p
    · have h := eqi h2
      simp [Term.eval, ha, hc, p] at h
  have h8 : cell.slots.size = 8 := by
    have : (8 : Int32) = Int32.ofNat cell.slots.size := by injection hv
    have h2 := congrArg Int32.toInt this
    rw [i32_lt hsz] at h2
    have : (8 : Int32).toInt = 8 := by decide
    omega
  exact ⟨a, ha, (Array.getElem?_eq_some_iff.mp hcb).1, cell, hcb, hof.1, hkn, h8, fun j hj => (hel j hj).2⟩
theorem i0_len : (planner0 0).length = 313 := by
  simp only [planner0, List.length_append, List.length_cons, List.length_nil, shape0_len, text0_len, sr0_len, lr0_len, pair0_len, places0_len, state0_len, hist0_len, poly0_len]
theorem lw0 : LW (planner0 0) [] rv0 [] := by
  show LW hp0 [] rv0 []
  refine ⟨Nat.le_of_eq i0_len.symm, sv0, [], fun _ => [], plb0, ⟨⟨⟨⟨rfl, rfl⟩, fun j hj => ?_⟩, ⟨⟨rfl, fun i hi => absurd hi (Nat.not_lt_zero _)⟩, Nat.zero_le _⟩, ⟨rfl, ⟨⟨by decide, by decide⟩, by decide, by decide⟩, by decide, by decide⟩, fun i hi => absurd hi (Nat.not_lt_zero _)⟩, rfl, fun j hj => absurd hj (Nat.not_lt_zero _)⟩, NH.none rfl, fun r hr => absurd hr List.not_mem_nil⟩
  have e : rv0.1.getD j [] = [] := by
    have : j = 0 ∨ j = 1 ∨ j = 2 ∨ j = 3 := by omega
    rcases this with rfl | rfl | rfl | rfl <;> rfl
  rw [e]
  exact ⟨SR.nils, Nat.zero_le _⟩
theorem undo0 : rUndo rv0 [] = (-1000002, rv0, []) := by
  unfold rUndo
  rw [ifC_pos (p := ([] : List RV) = []) rfl]
theorem lw_undo0 {E : EV} {h : AH} {K : Int32 → AH → Prop} (W : LW h [] rv0 []) (k : ∀ h', LW h' [] rv0 [] → K (-1000002) h') : CV (sX10_undo E) (some 0) 10 [] h (kI K) := by
  obtain ⟨L, σ, vs, M, H, F, N, Ns⟩ := W
  obtain ⟨e, F'⟩ := q_undo F
  rw [undo0] at e F'
  refine cvIq H.1 (c10_undo H) fun r h' q => ?_
  obtain ⟨q1, q2, q3⟩ := q
  rw [q1, e]
  exact k h' ⟨by rw [q3.1]; exact L, _, _, M, q2, F', N, Ns⟩
theorem cont0 : rCont rv0 [] 15 15 = (Int32.ofNat 0, (rv0.1, [], 15, 15, rv0.2.2.2.2), pushR [] rv0) := by
  unfold rCont
  rw [ifC_pos (p := inP 15 1 40 ∧ inP 15 1 40) ⟨⟨by decide, by decide⟩, by decide, by decide⟩]
  rfl
theorem law_init {E : EV} : PX12_law_0 E (fun _ _ => True) (fun k n h l1 l2 l3 => ∃ m', I34 m' k n h l1 l2 l3) 0 0 [] := by
  unfold PX12_law_0
  refine ⟨⟨by decide, by decide⟩, fun h1 e1 => ⟨⟨by decide, by decide⟩, ?_⟩⟩
  subst e1
  refine csV (i0_Planner (h := [])) ⟨⟨by decide, by decide⟩, ?_⟩
  show CV (sX10_undo E) (some 0) 10 [] (planner0 0) _
  refine lw_undo0 lw0 fun h2 W2 => ⟨fun q => q rfl, fun _ => ⟨⟨by decide, by decide⟩, lw_cont W2 15 15 fun h4 W4 D4 => ?_⟩⟩
  rw [cont0] at W4 ⊢
  refine ⟨fun _ => ⟨_, 0, [], _, _, rfl, Nat.zero_le _, rfl, rfl, by decide, rfl, W4, by decide, by decide⟩, fun q => q rfl⟩
theorem whole_start {p : Program} {e : Env} {s : State} {m : MethodId} {below : List Frame} {meth : Method} {c : Code} (l : Launch) (hflags : l.flags = flags0) {b L : Nat} {xs : Nat → Int32} (hL : L ≤ 260) (C0 : lw_At p s m meth c b L xs) : W p l e room_1 s m #[Value.ref b] below meth c s.heap [] 0 0 (lw_Z below #[Value.ref b] s) (entryFrame m ([Value.ref b] : List Value).toArray 12) := by
  obtain ⟨hx, hb, hr, hml, hown, hts, hX, hbl, hlocks, hgv⟩ := id C0
  have hts2 : ∀ w ∈ Wg, w.before #[Value.ref b] s = true := fun w hw => hts w (Wg_in w hw)
  obtain ⟨cI, kI', compI, fI1, fI2, fI3⟩ := Cond.arrayClass_spec (hts2 _ k66)
  obtain ⟨compP, cP, kP', fP1, -, fP2, fP3, fP4⟩ := Cond.arrayOver_spec (hts _ k208)
  obtain ⟨compS, cS, kS', fS1, -, fS2, fS3, fS4⟩ := Cond.arrayOver_spec (hts _ k249)
  obtain ⟨compT, cT, kT', fT1, -, fT2, fT3, fT4⟩ := Cond.arrayOver_spec (hts _ k294)
  have hex : ∀ k : Nat, ∃ (cC : ClassId) (iS : Nat → Nat), ∀ q, vwCl[k]? = some q → u_Kn s q.1 q.2.1 q.2.2 cC iS := by
    intro k
    by_cases hk0 : k = 0
    · subst hk0
      obtain ⟨cC, iS, hh⟩ := u_known (C := RX0) (T := TX0) (N := 2) hts2 inU0 (hts2 _ k169)
      exact ⟨cC, iS, fun q hq => by cases hq; exact hh⟩
    by_cases hk1 : k = 1
    · subst hk1
      obtain ⟨cC, iS, hh⟩ := u_known (C := RX1) (T := TX1) (N := 2) hts2 inU1 (hts2 _ k288)
      exact ⟨cC, iS, fun q hq => by cases hq; exact hh⟩
    by_cases hk2 : k = 2
    · subst hk2
      obtain ⟨cC, iS, hh⟩ := u_known (C := RX2) (T := TX2) (N := 4) hts2 inU2 (hts2 _ k141)
      exact ⟨cC, iS, fun q hq => by cases hq; exact hh⟩
    by_cases hk3 : k = 3
    · subst hk3
      obtain ⟨cC, iS, hh⟩ := u_known (C := RX3) (T := TX3) (N := 4) hts2 inU3 (hts2 _ k161)
      exact ⟨cC, iS, fun q hq => by cases hq; exact hh⟩
    by_cases hk4 : k = 4
    · subst hk4
      obtain ⟨cC, iS, hh⟩ := u_known (C := RX4) (T := TX4) (N := 10) hts2 inU4 (hts2 _ k199)
      exact ⟨cC, iS, fun q hq => by cases hq; exact hh⟩
    by_cases hk5 : k = 5
    · subst hk5
      obtain ⟨cC, iS, hh⟩ := u_known (C := RX5) (T := TX5) (N := 8) hts2 inU5 (hts2 _ k101)
      exact ⟨cC, iS, fun q hq => by cases hq; exact hh⟩
    by_cases hk6 : k = 6
    · subst hk6
      obtain ⟨cC, iS, hh⟩ := u_known (C := RX6) (T := TX6) (N := 9) hts2 inU6 (hts2 _ k22)
      exact ⟨cC, iS, fun q hq => by cases hq; exact hh⟩
    by_cases hk7 : k = 7
    · subst hk7
      obtain ⟨cC, iS, hh⟩ := u_known (C := RX7) (T := TX7) (N := 2) hts2 inU7 (hts2 _ k93)
      exact ⟨cC, iS, fun q hq => by cases hq; exact hh⟩
    by_cases hk8 : k = 8
    · subst hk8
      obtain ⟨cC, iS, hh⟩ := u_known (C := RX8) (T := TX8) (N := 9) hts2 inU8 (hts2 _ k243)
      exact ⟨cC, iS, fun q hq => by cases hq; exact hh⟩
    by_cases hk9 : k = 9
    · subst hk9
      obtain ⟨cC, iS, hh⟩ := u_known (C := RX9) (T := TX9) (N := 4) hts2 inU9 (hts2 _ k68)
      exact ⟨cC, iS, fun q hq => by cases hq; exact hh⟩
    by_cases hk10 : k = 10
    · subst hk10
      obtain ⟨cC, iS, hh⟩ := u_known (C := RX10) (T := TX10) (N := 12) hts2 inU10 (hts2 _ k14)
      exact ⟨cC, iS, fun q hq => by cases hq; exact hh⟩
    refine ⟨cI, fun _ => 0, fun q hq => ?_⟩
    have : 11 ≤ k := by omega
    rw [List.getElem?_eq_none (by exact this)] at hq
    cases hq
  obtain ⟨dC, dI, hKc⟩ : ∃ (dC : Nat → ClassId) (dI : Nat → Nat → Nat), ∀ (k : Nat) (q : vw_C), vwCl[k]? = some q → u_Kn s q.1 q.2.1 q.2.2 (dC k) (dI k) :=
    ⟨fun k => Classical.choose (hex k), fun k => Classical.choose (Classical.choose_spec (hex k)), fun k q hq => Classical.choose_spec (Classical.choose_spec (hex k)) q hq⟩
  obtain ⟨E, hE⟩ : ∃ E : EV, E = (s.heap.size, (dC, dI), fun k => if k = 0 then cI else if k = 12 then cP else if k = 13 then cS else cT) := ⟨_, rfl⟩
  have hE1 : E.1 = s.heap.size := by rw [hE]
  have hK : va_K E.2.1 vwCl (tysE E) s := by
    subst hE
    refine ⟨hKc, fun k q hq => ?_⟩
    match k, hq with
    | 0, hq => cases hq; exact ⟨fun N z => ⟨(fun k h => by cases h), kI', fI2, compI, fI3⟩, fI1⟩
    | 1, hq => cases hq; exact ⟨fun N z => ⟨(fun k h => by cases h), kI', fI2, compI, fI3⟩, fI1⟩
    | 2, hq => cases hq; exact ⟨fun N z => ⟨(fun k h => by cases h), kP', fP2, compP, fP3⟩, kP', compP, fP2, fP3, fP1, fP4⟩
    | 3, hq => cases hq; exact ⟨fun N z => ⟨(fun k h => by cases h), kS', fS2, compS, fS3⟩, kS', compS, fS2, fS3, fS1, fS4⟩
    | 4, hq => cases hq; exact ⟨fun N z => ⟨(fun k h => by cases h), kT', fT2, compT, fT3⟩, kT', compT, fT2, fT3, fT1, fT4⟩
    | k + 5, hq => simp [tysE] at hq
  have hA : ∀ a : Nat, a < s.heap.size → ¬ (fun q => E.1 ≤ q) a := fun a ha => by rw [hE1]; exact Nat.not_le.mpr ha
  have hg := flat_of_before _ hgv
  have hSx : Sta1 E "DIRECTION_X" dirxF s s.heap := by
    obtain ⟨b1, q1, q2, q3⟩ := st_X (t := (.static RX10 "DIRECTION_X" "[I")) (z := dirxF) (hg _ (by decide +kernel)) (hg _ (by decide +kernel)) (fun j hj => by
      rcases (show j = 0 ∨ j = 1 ∨ j = 2 ∨ j = 3 ∨ j = 4 ∨ j = 5 ∨ j = 6 ∨ j = 7 by omega) with rfl | rfl | rfl | rfl | rfl | rfl | rfl | rfl <;> exact hg _ (by decide +kernel))
    exact ⟨b1, by rw [hE1]; exact q2, va_Zref (hts _ k515) (hts2 _ k1) q1 hA, q3⟩
  have hSy : Sta1 E "DIRECTION_Y" diryF s s.heap := by
    obtain ⟨b1, q1, q2, q3⟩ := st_X (t := (.static RX10 "DIRECTION_Y" "[I")) (z := diryF) (hg _ (by decide +kernel)) (hg _ (by decide +kernel)) (fun j hj => by
      rcases (show j = 0 ∨ j = 1 ∨ j = 2 ∨ j = 3 ∨ j = 4 ∨ j = 5 ∨ j = 6 ∨ j = 7 by omega) with rfl | rfl | rfl | rfl | rfl | rfl | rfl | rfl <;> exact hg _ (by decide +kernel))
    exact ⟨b1, by rw [hE1]; exact q2, va_Zref (hts _ k520) (hts2 _ k1) q1 hA, q3⟩
  have hot : ∀ w ∈ nestW, w.onTables = true := by
    intro w hw
    simp only [nestW, List.mem_cons, List.not_mem_nil, or_false] at hw
    rcases hw with rfl | rfl | rfl | rfl | rfl | rfl | rfl | rfl | rfl | rfl | rfl | rfl | rfl <;> rfl
  have hNW : NW s := ⟨fun w hw => va_Nw.of (hot w hw) (hts w (nestW_in w hw)), va_AO.of (hts _ k208), va_AO.of (hts _ k249), va_AO.of (hts _ k294)⟩
  have C : Cb E (p, l, e, room_1, s, m, #[Value.ref b], below, meth, c, lw_Z below #[Value.ref b] s) cX12_law RX12 12 rmX12_law := ⟨hx, hb, hml, hown, hts2, hK, ⟨hSx, hSy⟩, hNW, by rw [hE1]; exact Nat.le_refl _, rfl⟩
  have D : Lw E (p, l, e, room_1, s, m, #[Value.ref b], below, meth, c, lw_Z below #[Value.ref b] s) := ⟨b, L, xs, rfl, hbl, hE1, hX, hL, hr, hlocks, rfl⟩
  have hl := lv_entry ([.ref b]) (n := 12) (Nat.le_of_ble_eq_true rfl)
  rw [lg_entry_eq]
  generalize (lg_sl ([.ref b]) ++ List.replicate (12 - (lg_sl ([.ref b])).length) Slot.unset).toArray = ls at hl ⊢
  have hl : lv_has ls 12 [(0, .ref b)] := hl
  have hRel0 : Rel E [] s.heap := ⟨by rw [hE1]; rfl, fun k x hx => by simp at hx⟩
  have G := law_walk (E := E) (h := []) C D law_init
  exact G ls s.heap [] (by rw [exV_law (show b < E.1 by rw [hE1]; exact hbl)]; exact hl) hRel0 va_S.rf
