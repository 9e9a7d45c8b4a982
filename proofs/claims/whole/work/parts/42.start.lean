section FS
variable {E : EV} {X : AX} {ls : Array Slot} {k n pc : Nat} {st : List AV} {h : AH} {c N index : Nat} {Cn : String} {T : u_T} {ty : Nat → FieldType}
theorem f_dup {v : AV} (C : Cb E X code RL 4 room_1) (d : decode code pc = .ok (.dup, 1)) (hv : cat v = 1) (g : GoF E X ls k n (pc + 1) (v :: v :: st) h) : GoF E X ls k n pc (v :: st) h := by
  obtain ⟨p, l, e, R, s, m, args, below, meth, c0, Q⟩ := X
  obtain ⟨hx, hb, hml, hown, hts, hK, hSt, hNW, hbs, rfl⟩ := C
  intro H locs hR hS
  exact lv_dup hx hb d (by rw [toV_cat]; exact hv) (g H locs hR hS)
theorem f_new {fs : List AV} (C : Cb E X code RL 4 room_1) (F : Fc c Cn T N ty) (hfl : fs.length = N) (hfs : ∀ j, j < N → defaultValue (ty j) = toV E (fs.getD j (aP none))) (hw : Cond.classLink RL index Cn ∈ Wg) (hi : Cond.instantiable Cn N ∈ Wg) (hini : Cond.initialized Cn ∈ Wg)
    (hk : k + 1 ≤ 600000) (hn : n + N ≤ 7302250) (d : decode code pc = .ok (.new index, 3)) (g : GoF E X ls (k + 1) (n + N) (pc + 3) (aP (some h.length) :: st) (h ++ [.inr (c, fs)])) : GoF E X ls k n pc st h := by
  obtain ⟨p, l, e, R, s, m, args, below, meth, c0, Q⟩ := X
  obtain ⟨hx, hb, hml, hown, hts, hK, hSt, hNW, hbs, rfl⟩ := C
  obtain ⟨hc, hcl, hin, hty, hnm⟩ := F
  intro H locs hR hS
  have hts2 : ∀ w ∈ Wg, w.before args s = true := hts
  have hKn := hK.1 c _ hcl
  refine W.newcK hx hb hown (hts _ hw) (hts _ hi) (hts _ hini) rfl d hk hn hKn.2.1 rfl fun H1 kC hkC e1 z1 o1 => ?_
  have hs := hR.1
  have g2 := g H1 locs (hR.push z1 o1 ⟨fun _ => ⟨_, hcl, hfl, ?_⟩, fun h12 => by omega⟩) (hS.push z1 o1)
  · have he : H.size = E.1 + h.length := hs
    rw [he]
    exact g2
  · have := (u_born ty hts2 hin hKn hkC e1 hty).to hfs
    rw [hs] at this
    exact this
theorem f_ci {o : Option Nat} {na maxL k' n' : Nat} {y : MethodName} {bytes : ByteArray} {rm' : Room} {K : AH → Prop} (C : Cb E X code RL 4 room_1) (hls : ls.size = 4) (M : Mt y bytes maxL none na) (MI : MtI y) (hlk : Cond.methodLink RL index y ∈ Wg) (As rest : List AV) (hna : As.length = na) (hst : st = As.reverse ++ aP o :: rest) (hrest : avlen rest ≤ 8)
    (hfr : rm'.frames + 1 ≤ 10 ∧ 8 + (maxL + 11) + rm'.locals ≤ 430) (hf : k + rm'.cells ≤ 600000 ∧ n + rm'.slots ≤ 7302250) (hk' : k + rm'.cells = k') (hn' : n + rm'.slots = n') (d : decode code pc = .ok (.invokespecial index, 3)) (ho : o.isSome = true)
    (w : CS (Spec E y bytes maxL none rm') (aP o :: As) h (kV K)) (g : ∀ (h' : AH), K h' → GoF E X ls k' n' (pc + 3) rest h') : GoF E X ls k n pc st h := by
  obtain ⟨post, sp, hp0⟩ := w
  obtain ⟨a, rfl⟩ := Option.isSome_iff_exists.mp ho
  subst hst; subst hk'; subst hn'; subst hna
  obtain ⟨p, l, e, R, s, m, args, below, meth, c0, Q⟩ := X
  obtain ⟨hx, hb, hml, hown, hts, hK, hSt, hNW, hbs, rfl⟩ := C
  obtain ⟨M1, M2, M3⟩ := M
  intro H locs hR hS
  have hstk : ((As.reverse ++ aP (some a) :: rest).map (toV E)) = (As.map (toV E)).reverse ++ Value.ref (E.1 + a) :: rest.map (toV E) := by
    simp only [List.map_append, List.map_reverse, List.map_cons]; rfl
  have hpre : PreS s H (Pc E (aP (some a) :: As) h) (.ref (E.1 + a) :: As.map (toV E)) := ⟨pc_blind, fun U hU hW => ⟨rfl, wd_of hR hK hSt hNW hbs hS hU hW⟩⟩
  have cb : CallB room_1 s args RL index y bytes maxL none (.code y bytes maxL none :: Wg) rm' rm'.cells rm'.slots (As.map (toV E)).length ∧ y.name = "<init>" ∧ (Cond.instanceMethod y).before args s = true :=
    ⟨callB_of _ hts (goodC M1) rfl rfl rfl (hts _ M2) (hts _ hlk) (by rw [List.length_map]; exact M3) hfr, MI.1, hts _ MI.2⟩
  refine run_go (post := post) (rest := rest.map (toV E)) (mc := rm'.cells) (ms := rm'.slots) (va_runI (As := As.map (toV E)) (b := E.1 + a) (cc := code) (nL := 4) (Ts := Wg) (own := RL) ⟨hx, hb, hml, hown, hts⟩ (sp l) cb hpre rfl rfl hls hstk (lv_room (by rw [sum_tr]; exact hrest)) d hf) hS ?_
  intro v h' hp H1 locs1 hR1 hS1
  obtain ⟨rfl, hq⟩ := hp0 v h' hp
  exact g h' hq H1 locs1 hR1 hS1
end FS
theorem eqi {args : Array Value} {s : State} {t : Term} {z : Int32} (h : (Cond.eq t (.int z)).before args s = true) : t.eval args s none [] s = some (.int z) := by
  cases hv : t.eval args s none [] s with
  | none => simp [Cond.before, Cond.holds, Cond.value, hv] at h
  | some w =>
    have hz : (Term.int z).eval args s none [] s = some (.int z) := rfl
    simp only [Cond.before, Cond.holds, Cond.value, hv, hz] at h
    cases w <;> simp_all
theorem st_X {args : Array Value} {s : State} {t : Term} {z : Nat → Int32} (h1 : (Cond.arrayOf t .int).before args s = true) (h2 : (Cond.eq (.length t) (.int 8)).before args s = true) (h3 : ∀ j, j < 8 → (Cond.eq (.elem t (.int (Int32.ofNat j))) (.int (z j))).before args s = true) : ∃ b, t.eval args s none [] s = some (.ref b) ∧ b < s.heap.size ∧ va_X b 8 z s s.heap := by
  obtain ⟨a, cell, ha, hc, hv⟩ := Term.length_spec (eqi h2)
  obtain ⟨hcb, hkn, -, -⟩ := State.arrayAt?_spec hc
  have hof := Cond.arrayOf_spec h1 ha hcb
  have hel : ∀ j, j < 8 → j < cell.slots.size ∧ cell.slots[j]? = some (.int (z j)) := fun j hj => by
    obtain ⟨a', j', cell', q1, q2, q3, q4, q5⟩ := Term.elem_spec (eqi (h3 j hj))
    rw [ha] at q1; cases q1
    rw [hc] at q3; cases q3
    cases q2
    rw [i32_n (by omega)] at q5 q4
    exact ⟨by omega, q5⟩
  have hsz : cell.slots.size < 2147483648 := by
    by_cases p : cell.slots.size < 2147483648
    · exact p
    · have h := eqi h2
      simp [Term.eval, ha, hc, p] at h
  have h8 : cell.slots.size = 8 := by
    have : (8 : Int32) = Int32.ofNat cell.slots.size := by injection hv
    have h2 := congrArg Int32.toInt this
    rw [i32_lt hsz] at h2
    have : (8 : Int32).toInt = 8 := by decide
    omega
  exact ⟨a, ha, (Array.getElem?_eq_some_iff.mp hcb).1, cell, hcb, hof.1, hkn, h8, fun j hj => (hel j hj).2⟩
theorem i0_len : (planner0 0).length = 313 := by
  simp only [planner0, List.length_append, List.length_cons, List.length_nil, shape0_len, text0_len, sr0_len, lr0_len, pair0_len, places0_len, state0_len, hist0_len, poly0_len]
theorem start_of {Inv : Nat → AH → Prop} {NN : Nat} (hNN : NN ≤ 512) (keep : ∀ (z : Nat) (h : AH), Inv z h → Inv (z + 1) h) (steps : ∀ (E : EV) (z : Nat) (h : AH), z < NN → Inv z h → Steps E h (Inv (z + 1))) (hI0 : Inv 0 (planner0 0 ++ model0 313)) {p : Program} {e : Env} {s : State} {m : MethodId} {below : List Frame} {meth : Method} {c : Code} (l : Launch) (hflags : l.flags = flags0) {b L : Nat} {xs : Nat → Int32} (hL : L ≤ 7 * NN) (C0 : lw_At p s m meth c b L xs) : W p l e room_1 s m #[Value.ref b] below meth c s.heap [] 0 0 (lw_Z below #[Value.ref b] s) (entryFrame m ([Value.ref b] : List Value).toArray 4) := by
  obtain ⟨hx, hb, hr, hml, hown, hts, hX, hbl, hlocks, hgv⟩ := id C0
  have hts2 : ∀ w ∈ Wg, w.before #[Value.ref b] s = true := fun w hw => hts w (Wg_in w hw)
  obtain ⟨cI, kI', compI, fI1, fI2, fI3⟩ := Cond.arrayClass_spec (hts2 _ k67)
  obtain ⟨cB, kB', compB, fB1, fB2, fB3⟩ := Cond.arrayClass_spec (hts2 _ k1022)
  obtain ⟨compP, cP, kP', fP1, -, fP2, fP3, fP4⟩ := Cond.arrayOver_spec (hts _ k211)
  obtain ⟨compS, cS, kS', fS1, -, fS2, fS3, fS4⟩ := Cond.arrayOver_spec (hts _ k252)
  obtain ⟨compT, cT, kT', fT1, -, fT2, fT3, fT4⟩ := Cond.arrayOver_spec (hts _ k297)
  have hex : ∀ k : Nat, ∃ (cC : ClassId) (iS : Nat → Nat), ∀ q, vwCl[k]? = some q → u_Kn s q.1 q.2.1 q.2.2 cC iS := by
    intro k
    by_cases hk0 : k = 0
    · subst hk0
      obtain ⟨cC, iS, hh⟩ := u_known (C := RX0) (T := TX0) (N := 2) hts2 inU0 (hts2 _ k171)
      exact ⟨cC, iS, fun q hq => by cases hq; exact hh⟩
    by_cases hk1 : k = 1
    · subst hk1
      obtain ⟨cC, iS, hh⟩ := u_known (C := RX1) (T := TX1) (N := 2) hts2 inU1 (hts2 _ k291)
      exact ⟨cC, iS, fun q hq => by cases hq; exact hh⟩
    by_cases hk2 : k = 2
    · subst hk2
      obtain ⟨cC, iS, hh⟩ := u_known (C := RX2) (T := TX2) (N := 4) hts2 inU2 (hts2 _ k143)
      exact ⟨cC, iS, fun q hq => by cases hq; exact hh⟩
    by_cases hk3 : k = 3
    · subst hk3
      obtain ⟨cC, iS, hh⟩ := u_known (C := RX3) (T := TX3) (N := 4) hts2 inU3 (hts2 _ k163)
      exact ⟨cC, iS, fun q hq => by cases hq; exact hh⟩
    by_cases hk4 : k = 4
    · subst hk4
      obtain ⟨cC, iS, hh⟩ := u_known (C := RX4) (T := TX4) (N := 10) hts2 inU4 (hts2 _ k202)
      exact ⟨cC, iS, fun q hq => by cases hq; exact hh⟩
    by_cases hk5 : k = 5
    · subst hk5
      obtain ⟨cC, iS, hh⟩ := u_known (C := RX5) (T := TX5) (N := 8) hts2 inU5 (hts2 _ k102)
      exact ⟨cC, iS, fun q hq => by cases hq; exact hh⟩
    by_cases hk6 : k = 6
    · subst hk6
      obtain ⟨cC, iS, hh⟩ := u_known (C := RX6) (T := TX6) (N := 9) hts2 inU6 (hts2 _ k23)
      exact ⟨cC, iS, fun q hq => by cases hq; exact hh⟩
    by_cases hk7 : k = 7
    · subst hk7
      obtain ⟨cC, iS, hh⟩ := u_known (C := RX7) (T := TX7) (N := 2) hts2 inU7 (hts2 _ k94)
      exact ⟨cC, iS, fun q hq => by cases hq; exact hh⟩
    by_cases hk8 : k = 8
    · subst hk8
      obtain ⟨cC, iS, hh⟩ := u_known (C := RX8) (T := TX8) (N := 9) hts2 inU8 (hts2 _ k246)
      exact ⟨cC, iS, fun q hq => by cases hq; exact hh⟩
    by_cases hk9 : k = 9
    · subst hk9
      obtain ⟨cC, iS, hh⟩ := u_known (C := RX9) (T := TX9) (N := 4) hts2 inU9 (hts2 _ k69)
      exact ⟨cC, iS, fun q hq => by cases hq; exact hh⟩
    by_cases hk10 : k = 10
    · subst hk10
      obtain ⟨cC, iS, hh⟩ := u_known (C := RX10) (T := TX10) (N := 12) hts2 inU10 (hts2 _ k15)
      exact ⟨cC, iS, fun q hq => by cases hq; exact hh⟩
    by_cases hk11 : k = 11
    · subst hk11
      obtain ⟨cC, iS, hh⟩ := u_known (C := RX11) (T := TX11) (N := 26) hts2 inU11 (hts2 _ k938)
      exact ⟨cC, iS, fun q hq => by cases hq; exact hh⟩
    refine ⟨cI, fun _ => 0, fun q hq => ?_⟩
    have : 12 ≤ k := by omega
    rw [List.getElem?_eq_none (by exact this)] at hq
    cases hq
  obtain ⟨dC, dI, hKc⟩ : ∃ (dC : Nat → ClassId) (dI : Nat → Nat → Nat), ∀ (k : Nat) (q : vw_C), vwCl[k]? = some q → u_Kn s q.1 q.2.1 q.2.2 (dC k) (dI k) :=
    ⟨fun k => Classical.choose (hex k), fun k => Classical.choose (Classical.choose_spec (hex k)), fun k q hq => Classical.choose_spec (Classical.choose_spec (hex k)) q hq⟩
  obtain ⟨E, hE⟩ : ∃ E : EV, E = (s.heap.size, (dC, dI), fun k => if k = 0 then cI else if k = 1 then cB else if k = 12 then cP else if k = 13 then cS else cT) := ⟨_, rfl⟩
  have hE1 : E.1 = s.heap.size := by rw [hE]
  have hK : va_K E.2.1 vwCl (tysE E) s := by
    subst hE
    refine ⟨hKc, fun k q hq => ?_⟩
    match k, hq with
    | 0, hq => cases hq; exact ⟨fun N z => ⟨(fun k h => by cases h), kI', fI2, compI, fI3⟩, fI1⟩
    | 1, hq => cases hq; exact ⟨fun N z => ⟨(fun k h => by cases h), kB', fB2, compB, fB3⟩, fB1⟩
    | 2, hq => cases hq; exact ⟨fun N z => ⟨(fun k h => by cases h), kP', fP2, compP, fP3⟩, kP', compP, fP2, fP3, fP1, fP4⟩
    | 3, hq => cases hq; exact ⟨fun N z => ⟨(fun k h => by cases h), kS', fS2, compS, fS3⟩, kS', compS, fS2, fS3, fS1, fS4⟩
    | 4, hq => cases hq; exact ⟨fun N z => ⟨(fun k h => by cases h), kT', fT2, compT, fT3⟩, kT', compT, fT2, fT3, fT1, fT4⟩
    | k + 5, hq => simp [tysE] at hq
  have hA : ∀ a : Nat, a < s.heap.size → ¬ (fun q => E.1 ≤ q) a := fun a ha => by rw [hE1]; exact Nat.not_le.mpr ha
  have hg := flat_of_before _ hgv
  have hSx : Sta1 E "DIRECTION_X" dirxF s s.heap := by
    obtain ⟨b1, q1, q2, q3⟩ := st_X (t := (.static RX10 "DIRECTION_X" "[I")) (z := dirxF) (hg _ (by decide +kernel)) (hg _ (by decide +kernel)) (fun j hj => by
      rcases (show j = 0 ∨ j = 1 ∨ j = 2 ∨ j = 3 ∨ j = 4 ∨ j = 5 ∨ j = 6 ∨ j = 7 by omega) with rfl | rfl | rfl | rfl | rfl | rfl | rfl | rfl <;> exact hg _ (by decide +kernel))
    exact ⟨b1, by rw [hE1]; exact q2, va_Zref (hts _ k607) (hts2 _ k1) q1 hA, q3⟩
  have hSy : Sta1 E "DIRECTION_Y" diryF s s.heap := by
    obtain ⟨b1, q1, q2, q3⟩ := st_X (t := (.static RX10 "DIRECTION_Y" "[I")) (z := diryF) (hg _ (by decide +kernel)) (hg _ (by decide +kernel)) (fun j hj => by
      rcases (show j = 0 ∨ j = 1 ∨ j = 2 ∨ j = 3 ∨ j = 4 ∨ j = 5 ∨ j = 6 ∨ j = 7 by omega) with rfl | rfl | rfl | rfl | rfl | rfl | rfl | rfl <;> exact hg _ (by decide +kernel))
    exact ⟨b1, by rw [hE1]; exact q2, va_Zref (hts _ k612) (hts2 _ k1) q1 hA, q3⟩
  have hot : ∀ w ∈ nestW, w.onTables = true := by
    intro w hw
    simp only [nestW, List.mem_cons, List.not_mem_nil, or_false] at hw
    rcases hw with rfl | rfl | rfl | rfl | rfl | rfl | rfl | rfl | rfl | rfl | rfl | rfl | rfl <;> rfl
  have hNW : NW s := ⟨fun w hw => va_Nw.of (hot w hw) (hts w (nestW_in w hw)), va_AO.of (hts _ k211), va_AO.of (hts _ k252), va_AO.of (hts _ k297)⟩
  have C : Cb E (p, l, e, room_1, s, m, #[Value.ref b], below, meth, c, lw_Z below #[Value.ref b] s) code RL 4 room_1 := ⟨hx, hb, hml, hown, hts2, hK, ⟨hSx, hSy⟩, hNW, by rw [hE1]; exact Nat.le_refl _, rfl⟩
  have hl := lv_entry ([.ref b]) (n := 4) (Nat.le_of_ble_eq_true rfl)
  rw [lg_entry_eq]
  generalize (lg_sl ([.ref b]) ++ List.replicate (4 - (lg_sl ([.ref b])).length) Slot.unset).toArray = ls at hl ⊢
  have hl : lv_has ls 4 [(0, .ref b)] := hl
  have hRel0 : Rel E [] s.heap := ⟨by rw [hE1]; rfl, fun k x hx => by simp at hx⟩
  refine (?_ : GoF E (p, l, e, room_1, s, m, #[Value.ref b], below, meth, c, lw_Z below #[Value.ref b] s) ls 0 0 0 [] []) s.heap [] hRel0 va_S.rf
  refine f_new (fs := [aP none, aP none, aP none, aP none, aP none, aP none, aP none, aP none, aP none, aP none, aP none, aP none]) C fcX10 rfl df_X10 k14 k15 k1 (by decide) (by decide) dL_law_0 ?_
  refine f_dup C dL_law_3 rfl ?_
  refine f_ci (rm' := rmX10_init) (k' := 351) (n' := 6012) C hl.1 mX10_init vX10_init k16 [] [aP (some 0)] rfl rfl (Nat.le_of_ble_eq_true rfl) (by decide) ⟨by decide, by decide⟩ rfl rfl dL_law_4 rfl (csV (i0_Planner (h := [])) rfl) (fun h1 e1 => ?_)
  subst e1
  intro H locs hR hS
  refine lv_astore_n (lv' := [(1, toV E (aP (some 0))), (0, .ref b)]) hx hb dL_law_7 rfl hl (by decide) rfl (fun ls hl => ?_)
  have hlen : (planner0 0).length = 313 := by
    have := i0_len
    exact this
  refine (?_ : GoF E (p, l, e, room_1, s, m, #[Value.ref b], below, meth, c, lw_Z below #[Value.ref b] s) ls 351 6012 8 [] (planner0 0)) H locs hR hS
  refine f_new (fs := [aP none, aP none, aI 0, aP none, aI 0, aI 0, aI 0, aJ 0, aJ 0, aJ 0, aJ 0, aJ 0, aJ 0, aI 0, aI 0, aI 0, aP none, aP none, aI 0, aP none, aP none, aI 0, aI 0, aP none, aI 0, aP none]) C fcX11 rfl df_X11 k937 k938 k12 (by decide) (by decide) dL_law_8 ?_
  refine f_dup C dL_law_11 rfl ?_
  refine f_ci (rm' := rmX11_init) (k' := 361) (n' := 10638) C hl.1 mX11_init vX11_init k939 [] [aP (some (planner0 0).length)] rfl rfl (Nat.le_of_ble_eq_true rfl) (by decide) ⟨by decide, by decide⟩ rfl rfl dL_law_12 rfl (csV (i0_Model (h := planner0 0)) rfl) (fun h1 e1 => ?_)
  subst e1
  intro H locs hR hS
  rw [hlen] at hR ⊢
  refine lv_astore_n (lv' := [(2, toV E (aP (some 313))), (1, toV E (aP (some 0))), (0, .ref b)]) hx hb dL_law_15 rfl hl (by decide) rfl (fun ls hl => ?_)
  refine lv_iconst (v := 0) hx hb dL_law_16 (by decide) ?_
  refine lv_istore_n (lv' := [(3, .int 0), (2, toV E (aP (some 313))), (1, toV E (aP (some 0))), (0, .ref b)]) hx hb dL_law_17 rfl hl (by decide) rfl (fun ls hl => ?_)
  refine W.widen (k := 400) (n := 12000) (by decide) (by decide) ?_
  exact law_loop hNN keep steps hL hr hlocks (L + 7) 0 ls _ ⟨C, lv_sub hl [3, 2, 1, 0] rfl, hX, hbl, hE1⟩ (by omega) (by omega) hI0 H locs hR hS
