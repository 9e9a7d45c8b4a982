/-! calls and ends -/
theorem NW.same {u U : State} (h : u.vm = U.vm) (hn : NW u) : NW U := by
  have key : ∀ w ∈ nestW, w.onTables = true := by
    intro w hw
    simp only [nestW, List.mem_cons, List.not_mem_nil, or_false] at hw
    rcases hw with rfl | rfl | rfl | rfl | rfl | rfl | rfl | rfl | rfl | rfl | rfl | rfl | rfl <;> rfl
  have ha : u.vm.Alike U.vm := by rw [h]; exact Vm.Alike.refl _
  exact ⟨fun w hw => va_Nw.same (key w hw) h (hn.1 w hw), hn.2.1.moved ha, hn.2.2.1.moved ha, hn.2.2.2.moved ha⟩
theorem wd_of {E : EV} {h : AH} {s U : State} {H : Heap} {locs : List Loc} (hR : Rel E h H) (hK : va_K E.2.1 vwCl (tysE E) s) (hSt : Sta E s s.heap) (hNW : NW s) (hbs : E.1 ≤ s.heap.size) (hS : va_S (fun q => E.1 ≤ q) s.heap H locs) (hU : U.heap = H) (hW : s.WarmedH U.vm) : Wd E h U := by
  refine ⟨by rw [hU]; exact hR, va_K.moved hW.alike hK, ?_, hNW.warm hW⟩
  rw [hU]
  exact hSt.kept hW.alike hbs hS.2.1
theorem pc_blind {E : EV} {vals : List AV} {h : AH} : FrameBlind (Pc E vals h) := by
  intro a U g mk hp
  obtain ⟨h1, h2, h3, h4, h5⟩ := hp
  exact ⟨h1, h2, va_K.moved (u := U) (U := U.calling g mk a) (Vm.Alike.refl U.vm) h3, h4.kept (U := U.calling g mk a) (Vm.Alike.refl U.vm) (by rw [h2.1]; omega) (fun q _ _ => rfl), NW.same (u := U) (U := U.calling g mk a) rfl h5⟩
def Mt (y : MethodName) (bytes : ByteArray) (maxL : Nat) (ret : Option FieldType) (na : Nat) : Prop := Cond.code y bytes maxL ret ∈ Wg ∧ Cond.initialized y.cls ∈ Wg ∧ (y.cls ≠ "java/lang/invoke/MethodHandle" ∧ y.cls ≠ "java/lang/invoke/VarHandle" ∧ (parseMethodDescriptor y.desc).map (fun d => d.parameters.length) = some na)
def MtV (y : MethodName) (ci : Nat) : Prop := Cond.instanceMethod y ∈ Wg ∧ Cond.selects y.cls y y ∈ Wg ∧ ci < 12 ∧ ∃ r : vw_C, vwCl[ci]? = some r ∧ r.1 = y.cls
def MtI (y : MethodName) : Prop := y.name = "<init>" ∧ Cond.instanceMethod y ∈ Wg
def MtS (y : MethodName) : Prop := Cond.static y ∈ Wg
theorem goodC {c : Cond} (h : c ∈ Wg) : GoodIn Wg (c :: Wg) := by
  intro w hw
  rcases List.mem_cons.mp hw with rfl | hw
  · exact ⟨h, good_of_word (Wg_good _ h)⟩
  · exact ⟨hw, good_of_word (Wg_good _ hw)⟩
def kI (K : Int32 → AH → Prop) : Option AV → AH → Prop := fun v h => ∃ x, v = some (aI x) ∧ K x h
def kJ (K : Int64 → AH → Prop) : Option AV → AH → Prop := fun v h => ∃ x, v = some (aJ x) ∧ K x h
def kP (K : Option Nat → AH → Prop) : Option AV → AH → Prop := fun v h => ∃ x, v = some (aP x) ∧ K x h
def kV (K : AH → Prop) : Option AV → AH → Prop := fun v h => v = none ∧ K h
def CV (S : List AV → AH → (Option AV → AH → Prop) → Prop) (o : Option Nat) (ci : Nat) (As : List AV) (h : AH) (K : Option AV → AH → Prop) : Prop := ∃ a vs post, o = some a ∧ h[a]? = some (.inr (ci, vs)) ∧ S (aP o :: As) h post ∧ ∀ v h', post v h' → K v h'
def CS (S : List AV → AH → (Option AV → AH → Prop) → Prop) (As : List AV) (h : AH) (K : Option AV → AH → Prop) : Prop := ∃ post, S As h post ∧ ∀ v h', post v h' → K v h'
theorem CV.mono {S : List AV → AH → (Option AV → AH → Prop) → Prop} {o : Option Nat} {ci : Nat} {As : List AV} {h : AH} {K K' : Option AV → AH → Prop} (hh : CV S o ci As h K) (hk : ∀ v h', K v h' → K' v h') : CV S o ci As h K' := by
  obtain ⟨a, vs, post, h1, h2, h3, h4⟩ := hh
  exact ⟨a, vs, post, h1, h2, h3, fun v h' q => hk v h' (h4 v h' q)⟩
theorem CS.mono {S : List AV → AH → (Option AV → AH → Prop) → Prop} {As : List AV} {h : AH} {K K' : Option AV → AH → Prop} (hh : CS S As h K) (hk : ∀ v h', K v h' → K' v h') : CS S As h K' := by
  obtain ⟨post, h3, h4⟩ := hh
  exact ⟨post, h3, fun v h' q => hk v h' (h4 v h' q)⟩
theorem kI.mono {K K' : Int32 → AH → Prop} (hk : ∀ x h, K x h → K' x h) : ∀ v h, kI K v h → kI K' v h := fun _ _ ⟨x, e, q⟩ => ⟨x, e, hk _ _ q⟩
theorem kJ.mono {K K' : Int64 → AH → Prop} (hk : ∀ x h, K x h → K' x h) : ∀ v h, kJ K v h → kJ K' v h := fun _ _ ⟨x, e, q⟩ => ⟨x, e, hk _ _ q⟩
theorem kP.mono {K K' : Option Nat → AH → Prop} (hk : ∀ x h, K x h → K' x h) : ∀ v h, kP K v h → kP K' v h := fun _ _ ⟨x, e, q⟩ => ⟨x, e, hk _ _ q⟩
theorem kV.mono {K K' : AH → Prop} (hk : ∀ h, K h → K' h) : ∀ v h, kV K v h → kV K' v h := fun _ _ ⟨e, q⟩ => ⟨e, hk _ q⟩
section RG
variable {p : Program} {l : Launch} {e : Env} {R : Room} {s : State} {m : MethodId} {args : Array Value} {below : List Frame} {meth : Method} {c : Code} {H : Heap} {locs : List Loc} {cells slots : Nat} {Q : State → Prop}
theorem run_go {E : EV} {post : Option AV → AH → Prop} {mc ms pc : Nat} {ls : Array Slot} {rest st0 : List Value} {a : Array Value} (hr : va_Run p l e R s m args below meth c H locs cells slots mc ms (F0 m pc ls st0) rest (Qc E post a) (fun q => E.1 ≤ q)) (hS : va_S (fun q => E.1 ≤ q) s.heap H locs)
    (kk : ∀ (v : Option AV) (h' : AH), post v h' → ∀ (H1 : Heap) (locs1 : List Loc), Rel E h' H1 → va_S (fun q => E.1 ≤ q) s.heap H1 locs1 → W p l e R s m args below meth c H1 locs1 (cells + mc) (slots + ms) Q (F0 m (pc + 3) ls ((v.map (toV E)).toList ++ rest))) : W p l e R s m args below meth c H locs cells slots Q (F0 m pc ls st0) := by
  intro T hT X
  obtain ⟨v, st₀, t, T', L, h0, X', hL, e1, e2, ⟨⟨v', h', hv, hp, hb⟩, hz, hk⟩, st⟩ := hr T hT X
  cases hv
  rw [h0] at hz hk
  obtain ⟨t2, a1, b1⟩ := kk v' h' hp T'.heap (locs ++ L) (by rw [e1]; exact hb)
    ⟨Nat.le_trans hS.1 (by rw [e1]; exact hz), fun q h1 h2 => by rw [e1, hk q (Nat.lt_of_lt_of_le h1 hS.1) h2]; exact hS.2.1 q h1 h2, fun q hq => by
      rcases List.mem_append.mp hq with h | h
      · exact hS.2.2 q h
      · exact hL q h⟩ T' rfl X'
  exact ⟨t2, st t2 a1, b1⟩
end RG
section CA
variable {E : EV} {X : AX} {cc : ByteArray} {own : String} {nL : Nat} {rm rm' : Room} {k n pc k' n' : Nat} {lv : List (Nat × AV)} {st rest As : List AV} {h : AH} {o : Option Nat} {index na ci maxL : Nat} {y : MethodName} {bytes : ByteArray} {ret : Option FieldType}
theorem toL (E : EV) (v : Option AV) (rest : List AV) : (v.map (toV E)).toList ++ rest.map (toV E) = (v.toList ++ rest).map (toV E) := by cases v <;> rfl
theorem sum_tr (E : EV) (st : List AV) : (List.map (fun v => v.category) (st.map (toV E))).sum = avlen st := by
  unfold avlen
  rw [List.map_map]
  congr 1
  exact List.map_congr_left fun v _ => toV_cat E v
theorem r_cv {K : Option AV → AH → Prop} (C : Cb E X cc own nL rm) (M : Mt y bytes maxL ret na) (MV : MtV y ci) (hlk : Cond.methodLink own index y ∈ Wg) (hna : As.length = na) (hst : st = As.reverse ++ aP o :: rest) (hrest : avlen rest ≤ 8)
    (hfr : rm'.frames + 1 ≤ rm.frames ∧ 8 + (maxL + 11) + rm'.locals ≤ rm.locals) (hf : k + rm'.cells ≤ rm.cells ∧ n + rm'.slots ≤ rm.slots) (hk' : k + rm'.cells = k') (hn' : n + rm'.slots = n') (d : decode cc pc = .ok (.invokevirtual index, 3))
    (g : CV (Spec E y bytes maxL ret rm') o ci As h (fun v h' => Go E X nL k' n' (pc + 3) lv (v.toList ++ rest) h')) : Go E X nL k n pc lv st h := by
  obtain ⟨a, vs, post, rfl, ha, sp, g⟩ := g
  subst hst; subst hk'; subst hn'; subst hna
  obtain ⟨p, l, e, R, s, m, args, below, meth, c0, Q⟩ := X
  obtain ⟨hx, hb, hml, hown, hts, hK, hSt, hNW, hbs, rfl⟩ := C
  obtain ⟨M1, M2, M3⟩ := M
  obtain ⟨V1, V2, V3, r, V4, V5⟩ := MV
  intro ls H locs hl hR hS
  obtain ⟨r', hr', -, cell, q1, q2, q3, -⟩ := (hR.2 a _ ha).1 V3
  have hcls := (hK.1 ci r V4).2
  have cb : CallW R s args own y.cls index y bytes maxL ret (.code y bytes maxL ret :: Wg) rm' rm'.cells rm'.slots (As.map (toV E)).length :=
    ⟨callB_of _ hts (goodC M1) rfl rfl rfl (hts _ M2) (hts _ hlk) (by rw [List.length_map]; exact M3) hfr, hts _ V1, hts _ V2⟩
  refine run_go (post := post) (rest := rest.map (toV E)) (mc := rm'.cells) (ms := rm'.slots) (va_runV (As := As.map (toV E)) (b := E.1 + a) (cc := cc) (nL := nL) (Ts := Wg) (own := own) ⟨hx, hb, hml, hown, hts⟩ (sp l) cb ⟨pc_blind, ⟨cell, q1, by rw [q3]; rfl, by rw [q2, ← V5]; exact hcls.1⟩, fun U hU hW => ⟨rfl, wd_of hR hK hSt hNW hbs hS hU hW⟩⟩ rfl rfl hl.1 ?_ ?_ d hf) hS ?_
  · simp only [List.map_append, List.map_reverse, List.map_cons]; rfl
  · exact lv_room (by rw [sum_tr]; exact hrest)
  · intro v h' hp H1 locs1 hR1 hS1
    rw [toL]
    exact g v h' hp ls H1 locs1 hl hR1 hS1
theorem r_cs {K : Option AV → AH → Prop} (C : Cb E X cc own nL rm) (M : Mt y bytes maxL ret na) (MS : MtS y) (hlk : Cond.methodLink own index y ∈ Wg) (hna : As.length = na) (hst : st = As.reverse ++ rest) (hrest : avlen rest ≤ 8)
    (hfr : rm'.frames + 1 ≤ rm.frames ∧ 8 + (maxL + 11) + rm'.locals ≤ rm.locals) (hf : k + rm'.cells ≤ rm.cells ∧ n + rm'.slots ≤ rm.slots) (hk' : k + rm'.cells = k') (hn' : n + rm'.slots = n') (d : decode cc pc = .ok (.invokestatic index, 3))
    (g : CS (Spec E y bytes maxL ret rm') As h (fun v h' => Go E X nL k' n' (pc + 3) lv (v.toList ++ rest) h')) : Go E X nL k n pc lv st h := by
  obtain ⟨post, sp, g⟩ := g
  subst hst; subst hk'; subst hn'; subst hna
  obtain ⟨p, l, e, R, s, m, args, below, meth, c0, Q⟩ := X
  obtain ⟨hx, hb, hml, hown, hts, hK, hSt, hNW, hbs, rfl⟩ := C
  obtain ⟨M1, M2, M3⟩ := M
  intro ls H locs hl hR hS
  have cb : CallB R s args own index y bytes maxL ret (.code y bytes maxL ret :: Wg) rm' rm'.cells rm'.slots (As.map (toV E)).length ∧ (Cond.static y).before args s = true :=
    ⟨callB_of _ hts (goodC M1) rfl rfl rfl (hts _ M2) (hts _ hlk) (by rw [List.length_map]; exact M3) hfr, hts _ MS⟩
  refine run_go (post := post) (rest := rest.map (toV E)) (mc := rm'.cells) (ms := rm'.slots) (va_runS (As := As.map (toV E)) (cc := cc) (nL := nL) (Ts := Wg) (own := own) ⟨hx, hb, hml, hown, hts⟩ (sp l) cb ⟨pc_blind, fun U hU hW => ⟨rfl, wd_of hR hK hSt hNW hbs hS hU hW⟩⟩ rfl rfl hl.1 ?_ ?_ d hf) hS ?_
  · simp only [List.map_append, List.map_reverse]
  · exact lv_room (by rw [sum_tr]; exact hrest)
  · intro v h' hp H1 locs1 hR1 hS1
    rw [toL]
    exact g v h' hp ls H1 locs1 hl hR1 hS1
/-- a constructor's call; the link is the nest's own where the constructor is private -/
theorem r_ci {host : String} (C : Cb E X cc own nL rm) (M : Mt y bytes maxL none na) (MI : MtI y) (hlk : Cond.methodLink own index y ∈ Wg ∨ Cond.methodLinkNest own index y host ∈ nestW) (hna : As.length = na) (hst : st = As.reverse ++ aP o :: rest) (hrest : avlen rest ≤ 8)
    (hfr : rm'.frames + 1 ≤ rm.frames ∧ 8 + (maxL + 11) + rm'.locals ≤ rm.locals) (hf : k + rm'.cells ≤ rm.cells ∧ n + rm'.slots ≤ rm.slots) (hk' : k + rm'.cells = k') (hn' : n + rm'.slots = n') (d : decode cc pc = .ok (.invokespecial index, 3)) (ho : o.isSome = true)
    (g : CS (Spec E y bytes maxL none rm') (aP o :: As) h (fun v h' => Go E X nL k' n' (pc + 3) lv (v.toList ++ rest) h')) : Go E X nL k n pc lv st h := by
  obtain ⟨post, sp, g⟩ := g
  obtain ⟨a, rfl⟩ := Option.isSome_iff_exists.mp ho
  subst hst; subst hk'; subst hn'; subst hna
  obtain ⟨p, l, e, R, s, m, args, below, meth, c0, Q⟩ := X
  obtain ⟨hx, hb, hml, hown, hts, hK, hSt, hNW, hbs, rfl⟩ := C
  obtain ⟨M1, M2, M3⟩ := M
  intro ls H locs hl hR hS
  have hstk : ((As.reverse ++ aP (some a) :: rest).map (toV E)) = (As.map (toV E)).reverse ++ Value.ref (E.1 + a) :: rest.map (toV E) := by
    simp only [List.map_append, List.map_reverse, List.map_cons]; rfl
  have hpre : PreS s H (Pc E (aP (some a) :: As) h) (.ref (E.1 + a) :: As.map (toV E)) := ⟨pc_blind, fun U hU hW => ⟨rfl, wd_of hR hK hSt hNW hbs hS hU hW⟩⟩
  have fin : ∀ (v : Option AV) (h' : AH), post v h' → ∀ (H1 : Heap) (locs1 : List Loc), Rel E h' H1 → va_S (fun q => E.1 ≤ q) s.heap H1 locs1 → W p l e R s m args below meth c0 H1 locs1 (k + rm'.cells) (n + rm'.slots) Q (F0 m (pc + 3) ls ((v.map (toV E)).toList ++ rest.map (toV E))) := by
    intro v h' hp H1 locs1 hR1 hS1
    rw [toL]
    exact g v h' hp ls H1 locs1 hl hR1 hS1
  rcases hlk with hlk | hlk
  · have cb : CallB R s args own index y bytes maxL none (.code y bytes maxL none :: Wg) rm' rm'.cells rm'.slots (As.map (toV E)).length ∧ y.name = "<init>" ∧ (Cond.instanceMethod y).before args s = true :=
      ⟨callB_of _ hts (goodC M1) rfl rfl rfl (hts _ M2) (hts _ hlk) (by rw [List.length_map]; exact M3) hfr, MI.1, hts _ MI.2⟩
    exact run_go (post := post) (rest := rest.map (toV E)) (mc := rm'.cells) (ms := rm'.slots) (va_runI (As := As.map (toV E)) (b := E.1 + a) (cc := cc) (nL := nL) (Ts := Wg) (own := own) ⟨hx, hb, hml, hown, hts⟩ (sp l) cb hpre rfl rfl hl.1 hstk (lv_room (by rw [sum_tr]; exact hrest)) d hf) hS fin
  · have cb := va_cnB (R := R) (maxL := maxL) (bytes := bytes) (ret := none) (rm := rm') (mc := rm'.cells) (ms := rm'.slots) (As.map (toV E)).length hts (goodC M1) rfl rfl rfl (hNW.1 _ hlk) (hts _ M2) (by rw [List.length_map]; exact M3) hfr
    exact run_go (post := post) (rest := rest.map (toV E)) (mc := rm'.cells) (ms := rm'.slots) (va_runIN (host := host) (As := As.map (toV E)) (b := E.1 + a) (cc := cc) (nL := nL) (Ts := Wg) (own := own) ⟨hx, hb, hml, hown, hts⟩ (sp l) ⟨cb, MI.1, hts _ MI.2⟩ hpre rfl rfl hl.1 hstk (lv_room (by rw [sum_tr]; exact hrest)) d hf) hS fin
end CA
section RE
variable {E : EV} {X : AX} {cc : ByteArray} {own mn : String} {nL : Nat} {rm : Room} {k n pc : Nat} {lv : List (Nat × AV)} {h : AH} {ret : Option FieldType} {post : Option AV → AH → Prop}
theorem r_iret {x : Int32} (C : Cb E X cc own nL rm) (D : Cr E X ret rm mn post) (hr : ret = some .int) (hk : k ≤ rm.cells) (hn : n ≤ rm.slots) (d : decode cc pc = .ok (.ireturn, 1)) (g : post (some (aI x)) h) : Go E X nL k n pc lv [aI x] h := by
  obtain ⟨p, l, e, R, s, m, args, below, meth, c0, Q⟩ := X
  obtain ⟨hx, hb, hml, hown, hts, hK, hSt, hNW, hbs, rfl⟩ := C
  obtain ⟨hlk, hrt, hmn, rfl⟩ := D
  subst hr
  intro ls H locs hl hR hS
  refine W.widen hk hn ?_
  exact W.iret hx hb hrt (fun t ht hW => ⟨⟨some (aI x), h, rfl, g, by rw [ht]; exact hR⟩, hS.F ht⟩) hS.2.2 d hlk
theorem r_zret {x : Int32} (C : Cb E X cc own nL rm) (D : Cr E X ret rm mn post) (hr : ret = some .boolean) (hx1 : x = 0 ∨ x = 1) (hk : k ≤ rm.cells) (hn : n ≤ rm.slots) (d : decode cc pc = .ok (.ireturn, 1)) (g : post (some (aI x)) h) : Go E X nL k n pc lv [aI x] h := by
  obtain ⟨p, l, e, R, s, m, args, below, meth, c0, Q⟩ := X
  obtain ⟨hx, hb, hml, hown, hts, hK, hSt, hNW, hbs, rfl⟩ := C
  obtain ⟨hlk, hrt, hmn, rfl⟩ := D
  subst hr
  intro ls H locs hl hR hS
  refine W.widen hk hn ?_
  exact W.zret hx hb hrt (by rcases hx1 with rfl | rfl <;> rfl) (fun t ht hW => ⟨⟨some (aI x), h, rfl, g, by rw [ht]; exact hR⟩, hS.F ht⟩) hS.2.2 d hlk
theorem r_lret {x : Int64} (C : Cb E X cc own nL rm) (D : Cr E X ret rm mn post) (hr : ret = some .long) (hk : k ≤ rm.cells) (hn : n ≤ rm.slots) (d : decode cc pc = .ok (.lreturn, 1)) (g : post (some (aJ x)) h) : Go E X nL k n pc lv [aJ x] h := by
  obtain ⟨p, l, e, R, s, m, args, below, meth, c0, Q⟩ := X
  obtain ⟨hx, hb, hml, hown, hts, hK, hSt, hNW, hbs, rfl⟩ := C
  obtain ⟨hlk, hrt, hmn, rfl⟩ := D
  subst hr
  intro ls H locs hl hR hS
  refine W.widen hk hn ?_
  exact W.lret hx hb hrt (fun t ht hW => ⟨⟨some (aJ x), h, rfl, g, by rw [ht]; exact hR⟩, hS.F ht⟩) hS.2.2 d hlk
theorem r_aret {x : Option Nat} {Cn : String} (C : Cb E X cc own nL rm) (D : Cr E X ret rm mn post) (hr : ret = some (.object Cn)) (hk : k ≤ rm.cells) (hn : n ≤ rm.slots) (d : decode cc pc = .ok (.areturn, 1)) (g : post (some (aP x)) h) : Go E X nL k n pc lv [aP x] h := by
  obtain ⟨p, l, e, R, s, m, args, below, meth, c0, Q⟩ := X
  obtain ⟨hx, hb, hml, hown, hts, hK, hSt, hNW, hbs, rfl⟩ := C
  obtain ⟨hlk, hrt, hmn, rfl⟩ := D
  subst hr
  intro ls H locs hl hR hS
  refine W.widen hk hn ?_
  exact W.aret hx hb hrt (Or.inl ⟨_, rfl⟩) (by cases x with | none => exact Or.inl rfl | some a => exact Or.inr ⟨_, rfl⟩) (fun t ht hW => ⟨⟨some (aP x), h, rfl, g, by rw [ht]; exact hR⟩, hS.F ht⟩) hS.2.2 d hlk
theorem r_vret (C : Cb E X cc own nL rm) (D : Cr E X ret rm mn post) (hr : ret = none) (hk : k ≤ rm.cells) (hn : n ≤ rm.slots) (d : decode cc pc = .ok (.return_, 1)) (g : post none h) : Go E X nL k n pc lv [] h := by
  obtain ⟨p, l, e, R, s, m, args, below, meth, c0, Q⟩ := X
  obtain ⟨hx, hb, hml, hown, hts, hK, hSt, hNW, hbs, rfl⟩ := C
  obtain ⟨hlk, hrt, hmn, rfl⟩ := D
  subst hr
  intro ls H locs hl hR hS
  refine W.widen hk hn ?_
  exact W.vret hx hb hrt (fun t ht hW => ⟨⟨none, h, rfl, g, by rw [ht]; exact hR⟩, hS.F ht⟩) hS.2.2 d hlk
theorem r_tin {x : Int32} {st : List AV} {dflt lo hi : Int} {offs : Array Int} {len : Nat} {off : Int} {tgt : Nat} (C : Cb E X cc own nL rm) (d : decode cc pc = .ok (.tableswitch dflt lo hi offs, len)) (h1 : ¬ x.toInt < lo) (h2 : ¬ hi < x.toInt) (ho : offs[(x.toInt - lo).toNat]? = some off) (ht : (pc : Int) + off = (tgt : Int)) (g : Go E X nL k n tgt lv st h) : Go E X nL k n pc lv (aI x :: st) h := by
  obtain ⟨p, l, e, R, s, m, args, below, meth, c0, Q⟩ := X
  obtain ⟨hx, hb, hml, hown, hts, hK, hSt, hNW, hbs, rfl⟩ := C
  intro ls H locs hl hR hS
  exact lv_tableIn hx hb d h1 h2 ho ht (g ls H locs hl hR hS)
theorem r_tout {x : Int32} {st : List AV} {dflt lo hi : Int} {offs : Array Int} {len : Nat} {tgt : Nat} (C : Cb E X cc own nL rm) (d : decode cc pc = .ok (.tableswitch dflt lo hi offs, len)) (h1 : x.toInt < lo ∨ hi < x.toInt) (ht : (pc : Int) + dflt = (tgt : Int)) (g : Go E X nL k n tgt lv st h) : Go E X nL k n pc lv (aI x :: st) h := by
  obtain ⟨p, l, e, R, s, m, args, below, meth, c0, Q⟩ := X
  obtain ⟨hx, hb, hml, hown, hts, hK, hSt, hNW, hbs, rfl⟩ := C
  intro ls H locs hl hR hS
  exact lv_tableOut hx hb d h1 ht (g ls H locs hl hR hS)
end RE
