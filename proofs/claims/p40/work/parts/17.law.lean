/-! THE CLAIM OUT OF ONE WALK OF THE LAW'S BODY. Your part is whole_start (and what it stands on); all else here is the same for every law, but numbers. -/
def R_law : String := "NestingPlannerLaw"
def lw_P (b : Addr) (xs : List Int32) (args : Array Value) (s : State) : Prop := args = #[.ref b] ∧ s.IntsAt b xs ∧ xs.length ≤ 260 ∧ (Jvm.Cond.and given_1 narrow_1).before args s = true
def lw_Q (_ : Array Value) (s : State) (o : Outcome) (t : State) : Prop := o = .returned (some (.int 1)) ∧ Framed s o t [] 600000 7302249
def lw_Z (below : List Frame) (a : Array Value) (s : State) : State → Prop := fun t => ∃ o, t.status = .running ∧ Ended t below o ∧ lw_Q a s o t
/-- the law's own end, with 1 on the stack, nothing written that was there before, its room as the claim has it -/
theorem lw_ret {p : Program} {l : Launch} {e : Env} {s : State} {m : MethodId} {below : List Frame} {meth : Method} {c : Code} {b : Nat} (hx : p.tables.exec = Jvm.exec) (hb : c.code = code) (hr : meth.sig.returnType = ret) (hlocks : meth.locks = false) {pc : Nat} {H : Heap} {ls : Array Slot} (hdg : decode code pc = .ok (.ireturn, 1)) : W p l e room_1 s m #[Value.ref b] below meth c H [] 600000 7302249 (lw_Z below #[Value.ref b] s) (F0 m pc ls [.int 1]) := by
  intro T hT X
  obtain ⟨fs, hret, hrun, hended, hW, hframe⟩ := X.leave (v := some (.int 1)) (hlocks := hlocks) (fun h => by rw [hr] at h; cases h)
  have hmeth' : T.vm.method? m = some meth := X.method'
  refine ⟨T.setFrames fs, ?_, .returned (some (.int 1)), hrun, hended, rfl, ⟨_, rfl⟩, hW, hframe⟩
  jvm_step X.here [X.here.top, hx, hb, hdg, hmeth', hr, ret, narrow_b1]
  (try refine ⟨rfl, ?_⟩); (try refine ⟨rfl, ?_⟩)
  first | (intro acts; rw [hret _ acts rfl rfl rfl]) | rw [hret _ _ rfl rfl rfl]
  exact Steps.refl _
/-- what holds at the law's entry: the machine, the code, the tables' words (any of lw_tbl by 'hts w (by decide +kernel)'), the script of L ints xs at the cell b, what the Statement gives of the start (any of its parts by flat_of_before) -/
def lw_At (p : Program) (s : State) (m : MethodId) (meth : Method) (c : Code) (b L : Nat) (xs : Nat → Int32) : Prop :=
  p.tables.exec = Jvm.exec ∧ c.code = code ∧ meth.sig.returnType = ret ∧ c.maxLocals = 12 ∧ s.vm.findClass R_law = some m.cls ∧ (∀ w ∈ lw_tbl, w.before #[Value.ref b] s = true) ∧ va_X b L xs s s.heap ∧ b < s.heap.size ∧ meth.locks = false ∧ (Jvm.Cond.and given_1 narrow_1).before #[Value.ref b] s = true
theorem dX12_cell_0 : decode cX12_cell 0 = .ok (.iload_n 1, 1) := by decide +kernel
theorem dX12_cell_1 : decode cX12_cell 1 = .ok (.aload_n 0, 1) := by decide +kernel
theorem dX12_cell_2 : decode cX12_cell 2 = .ok (.arraylength, 1) := by decide +kernel
theorem dX12_cell_3 : decode cX12_cell 3 = .ok (.if_icmp .ge 9, 3) := by decide +kernel
theorem dX12_cell_6 : decode cX12_cell 6 = .ok (.aload_n 0, 1) := by decide +kernel
theorem dX12_cell_7 : decode cX12_cell 7 = .ok (.iload_n 1, 1) := by decide +kernel
theorem dX12_cell_8 : decode cX12_cell 8 = .ok (.iaload, 1) := by decide +kernel
theorem dX12_cell_9 : decode cX12_cell 9 = .ok (.goto 15, 3) := by decide +kernel
theorem dX12_cell_12 : decode cX12_cell 12 = .ok (.sipush 7919, 3) := by decide +kernel
theorem dX12_cell_15 : decode cX12_cell 15 = .ok (.iload_n 1, 1) := by decide +kernel
theorem dX12_cell_16 : decode cX12_cell 16 = .ok (.iconst 3, 1) := by decide +kernel
theorem dX12_cell_17 : decode cX12_cell 17 = .ok (.iadd, 1) := by decide +kernel
theorem dX12_cell_18 : decode cX12_cell 18 = .ok (.imul, 1) := by decide +kernel
theorem dX12_cell_19 : decode cX12_cell 19 = .ok (.iload_n 1, 1) := by decide +kernel
theorem dX12_cell_20 : decode cX12_cell 20 = .ok (.bipush 11, 2) := by decide +kernel
theorem dX12_cell_22 : decode cX12_cell 22 = .ok (.iadd, 1) := by decide +kernel
theorem dX12_cell_23 : decode cX12_cell 23 = .ok (.imul, 1) := by decide +kernel
theorem dX12_cell_24 : decode cX12_cell 24 = .ok (.ireturn, 1) := by decide +kernel
/-- what holds at every place of the law's body -/
def Lw (E : EV) (X : AX) : Prop := match X with
  | (_, _, _, _, s, _, args, below, meth, _, Q) => ∃ (b L : Nat) (xs : Nat → Int32), args = #[.ref b] ∧ b < s.heap.size ∧ E.1 = s.heap.size ∧ va_X b L xs s s.heap ∧ L ≤ 260 ∧ meth.sig.returnType = ret ∧ meth.locks = false ∧ Q = lw_Z below #[.ref b] s
abbrev rmX12_law : Room := { frames := 10, cells := 600000, slots := 7302249, locals := 414 }
theorem r_lawret {E : EV} {X : AX} {k n pc : Nat} {lv : List (Nat × AV)} {h : AH} (C : Cb E X code RX12 12 rmX12_law) (D : Lw E X) (hk : k ≤ 600000) (hn : n ≤ 7302249) (d : decode code pc = .ok (.ireturn, 1)) : Go E X 12 k n pc lv [aI 1] h := by
  obtain ⟨p, l, e, R, s, m, args, below, meth, c, Q⟩ := X
  obtain ⟨hx, hb, hml, hown, hts, hK, hSt, hNW, hbs, rfl⟩ := C
  obtain ⟨b, L, xs, rfl, hbl, hE, hX, hL, hr, hlocks, rfl⟩ := D
  intro ls H locs hl hR hS
  refine va_forget (fun q hq => by have := hS.2.2 q hq; rw [hE] at this; exact this) ?_
  refine W.widen (k := 600000) (n := 7302249) hk hn ?_
  exact lw_ret hx hb hr hlocks d
abbrev rmX12_cell : Room := { frames := 0, cells := 0, slots := 0, locals := 0 }
theorem mX12_cell : Mt yX12_cell cX12_cell 2 (some .int) 2 := ⟨k569, k0, by decide +kernel⟩
theorem vX12_cell : MtS yX12_cell := k568
/-- the start of cell: a script at b, below the abstract heap -/
def PcC (E : EV) (b L : Nat) (xs : Nat → Int32) (x : Int32) (h : AH) : Array Value → State → Prop := fun a U => a = ([.ref b, .int x] : List Value).toArray ∧ Wd E h U ∧ va_X b L xs U U.heap ∧ b < E.1
theorem pcC_blind {E : EV} {b L : Nat} {xs : Nat → Int32} {x : Int32} {h : AH} : FrameBlind (PcC E b L xs x h) := by
  intro a U g mk hp
  obtain ⟨h1, ⟨h2, h3, h4, h5⟩, h6, h7⟩ := hp
  exact ⟨h1, ⟨h2, va_K.moved (u := U) (U := U.calling g mk a) (Vm.Alike.refl U.vm) h3, h4.kept (U := U.calling g mk a) (Vm.Alike.refl U.vm) (by rw [h2.1]; omega) (fun q _ _ => rfl), NW.same (u := U) (U := U.calling g mk a) rfl h5⟩, va_X.moved (u := U) (U := U.calling g mk a) (Vm.Alike.refl U.vm) h6, h7⟩
theorem cell_in {x : Int32} {L : Nat} (hL : L ≤ 260) (h0 : ¬ x < 0) (h1 : ¬ Int32.ofNat L ≤ x) : vp_in x L := by
  have e : (Int32.ofNat L).toInt = (L : Int) := Int32.toInt_ofNat_of_lt (by omega)
  have z : (0 : Int32).toInt = 0 := by decide
  rw [vp_in_iff]
  rw [Int32.lt_iff_toInt_lt, z] at h0
  rw [Int32.le_iff_toInt_le, e] at h1
  omega
theorem c_cell {E : EV} {b L : Nat} {xs : Nat → Int32} {x : Int32} {h : AH} (h0 : ¬ x < 0) (hL : L ≤ 260) : ∀ l : Launch, Met l yX12_cell (.code yX12_cell cX12_cell 2 (some .int) :: Wg) rmX12_cell (PcC E b L xs x h) (Qc E (kI fun _ h' => h' = h)) rmX12_cell.cells rmX12_cell.slots (fun q => E.1 ≤ q) := by
  intro l
  refine Met.ofW (cc := cX12_cell) (maxL := 2) (ret := some .int) rfl rfl ?_
  intro p e s m args below meth c s₁ B hml hv
  obtain ⟨rfl, ⟨hR, hK, hSta, hNW⟩, hX, hbE⟩ := hv
  have hx := B.exec
  have hb := B.bytes
  have hbl : b < s.heap.size := by rw [hR.1]; omega
  have hbA : ¬ (fun q => E.1 ≤ q) b := Nat.not_le.mpr hbE
  have hl := lv_entry ([.ref b, .int x]) (n := 2) (Nat.le_of_ble_eq_true rfl)
  have hS : va_S (fun q => E.1 ≤ q) s.heap s.heap [] := va_S.rf
  rw [lg_entry_eq]
  generalize (lg_sl ([.ref b, .int x]) ++ List.replicate (2 - (lg_sl ([.ref b, .int x])).length) Slot.unset).toArray = ls at hl ⊢
  have hl : lv_has ls 2 [(0, .ref b), (1, .int x)] := hl
  refine lv_iload_n hx hb dX12_cell_0 rfl (lv_at hl 1 rfl) ?_
  refine lv_aload_n hx hb dX12_cell_1 rfl (lv_at hl 0 rfl) ?_
  refine va_slen hx hb hX hbl hbA hS dX12_cell_2 ?_
  refine lv_icmp_ge (tgt := 12) hx hb dX12_cell_3 (by decide) (fun hc => ?_) (fun hc => ?_)
  · refine lv_sipush (v := 7919) hx hb dX12_cell_12 (by decide) ?_
    refine lv_iload_n hx hb dX12_cell_15 rfl (lv_at hl 1 rfl) ?_
    refine lv_iconst (v := 3) hx hb dX12_cell_16 (by decide) ?_
    refine lv_iadd hx hb dX12_cell_17 ?_
    refine lv_imul hx hb dX12_cell_18 ?_
    refine lv_iload_n hx hb dX12_cell_19 rfl (lv_at hl 1 rfl) ?_
    refine lv_bipush (v := 11) hx hb dX12_cell_20 (by decide) ?_
    refine lv_iadd hx hb dX12_cell_22 ?_
    refine lv_imul hx hb dX12_cell_23 ?_
    exact W.iret hx hb B.returns (fun t ht hW => ⟨⟨some (aI _), h, rfl, ⟨_, rfl, rfl⟩, by rw [ht]; exact hR⟩, hS.F ht⟩) hS.2.2 dX12_cell_24 B.notSynchronized
  · refine lv_aload_n hx hb dX12_cell_6 rfl (lv_at hl 0 rfl) ?_
    refine lv_iload_n hx hb dX12_cell_7 rfl (lv_at hl 1 rfl) ?_
    refine va_sld hx hb hX hbl hbA hS (cell_in hL h0 hc) dX12_cell_8 ?_
    refine lv_goto (tgt := 24) hx hb dX12_cell_9 (by decide) ?_
    exact W.iret hx hb B.returns (fun t ht hW => ⟨⟨some (aI _), h, rfl, ⟨_, rfl, rfl⟩, by rw [ht]; exact hR⟩, hS.F ht⟩) hS.2.2 dX12_cell_24 B.notSynchronized
theorem low0 {x b : Int} (h : ¬ (x < 0 ∨ b < x)) : 0 ≤ x := by omega
theorem up1 {x a : Int} (h : a ≤ x) (hn : ¬ x = a) : a + 1 ≤ x := by omega
theorem last1 {x a b : Int} (h : a ≤ x) (hn : ¬ (x < b ∨ a < x)) : x = a := by omega
theorem r_cell {E : EV} {X : AX} {rm : Room} {k n pc : Nat} {lv : List (Nat × AV)} {st : List AV} {h : AH} {k0 k1 : Fin 4} {i index : Nat} {x : Int32} (C : Cb E X code RX12 12 rm) (D : Lw E X) (d0 : decode code pc = .ok (.aload_n k0, 1)) (h0 : (k0 : Nat) = 0) (d1 : decode code (pc + 1) = .ok (.iload_n k1, 1)) (h1 : (k1 : Nat) = i) (q : Nat) (hq : lv[q]? = some (i, aI x)) (d2 : decode code (pc + 1 + 1) = .ok (.invokestatic index, 3)) (hlk : Cond.methodLink RX12 index yX12_cell ∈ Wg) (hst : avlen st ≤ 8) (hfr : rmX12_cell.frames + 1 ≤ rm.frames ∧ 8 + (2 + 11) + rmX12_cell.locals ≤ rm.locals) (hx0 : ¬ x < 0) (hkn : k + 0 ≤ rm.cells ∧ n + 0 ≤ rm.slots) (g : ∀ v : Int32, Go E X 12 k n (pc + 5) lv (aI v :: st) h) : Go E X 12 k n pc lv st h := by
  obtain ⟨p, l, e, R, s, m, args, below, meth, c, Q⟩ := X
  obtain ⟨hx, hb, hml, hown, hts, hK, hSt, hNW, hbs, rfl⟩ := C
  obtain ⟨b, L, xs, rfl, hbl, hE, hX, hL, hr, hlocks, rfl⟩ := D
  obtain ⟨M1, M2, M3⟩ := mX12_cell
  intro ls H locs hl hR hS
  have hbE : b < E.1 := by rw [hE]; exact hbl
  have hbA : ¬ (fun q => E.1 ≤ q) b := Nat.not_le.mpr hbE
  have hl0 : ls[0]? = some (.val (.ref b)) := hl.2.2 (0, .ref b) (List.mem_append_right _ (by rw [exV_law hbE]; exact List.mem_singleton.mpr rfl))
  refine lv_aload_n hx hb d0 h0 hl0 ?_
  refine lv_iload_n hx hb d1 h1 (lv_at hl q ((ex_at hq).trans rfl)) ?_
  have cb : CallB R s #[.ref b] RX12 index yX12_cell cX12_cell 2 (some .int) (.code yX12_cell cX12_cell 2 (some .int) :: Wg) rmX12_cell 0 0 ([.ref b, .int x] : List Value).length ∧ (Cond.static yX12_cell).before #[.ref b] s = true :=
    ⟨callB_of _ hts (goodC M1) rfl rfl rfl (hts _ M2) (hts _ hlk) M3 hfr, hts _ vX12_cell⟩
  refine run_go (post := kI fun _ h' => h' = h) (rest := st.map (toV E)) (mc := 0) (ms := 0) (va_runS (As := [.ref b, .int x]) (cc := code) (nL := 12) (Ts := Wg) (own := RX12) ⟨hx, hb, hml, hown, hts⟩ (c_cell (xs := xs) hx0 hL l) cb ⟨pcC_blind, fun U hU hW => ⟨rfl, wd_of hR hK hSt hNW hbs hS hU hW, ?_, hbE⟩⟩ rfl rfl hl.1 rfl (lv_room (by rw [sum_tr]; exact hst)) d2 hkn) hS ?_
  · have := (hX.moved hW.alike).kept (hS.2.1 b hbl hbA)
    rw [hU]; exact this
  · intro v h' hp H1 locs1 hR1 hS1
    obtain ⟨y, rfl, rfl⟩ := hp
    exact g y ls H1 locs1 hl hR1 hS1
