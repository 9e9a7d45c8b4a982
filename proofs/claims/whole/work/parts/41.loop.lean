/-! THE CLAIM OUT OF ONE WALK OF THE LAW'S BODY. Your part is whole_start (and what it stands on); all else here is the same for every law, but numbers. -/
def R_law : String := "NestingPlannerLaw"
def lw_P (b : Addr) (xs : List Int32) (args : Array Value) (s : State) : Prop := args = #[.ref b] ∧ s.IntsAt b xs ∧ xs.length ≤ 3584 ∧ (Jvm.Cond.and given_1 narrow_1).before args s = true
def lw_Q (_ : Array Value) (s : State) (o : Outcome) (t : State) : Prop := o = .returned (some (.int 1)) ∧ Framed s o t [] 600000 7302250
def lw_Z (below : List Frame) (a : Array Value) (s : State) : State → Prop := fun t => ∃ o, t.status = .running ∧ Ended t below o ∧ lw_Q a s o t
/-- the law's own end, with 1 on the stack, nothing written that was there before, its room as the claim has it -/
theorem lw_ret {p : Program} {l : Launch} {e : Env} {s : State} {m : MethodId} {below : List Frame} {meth : Method} {c : Code} {b : Nat} (hx : p.tables.exec = Jvm.exec) (hb : c.code = code) (hr : meth.sig.returnType = ret) (hlocks : meth.locks = false) {pc : Nat} {H : Heap} {ls : Array Slot} (hdg : decode code pc = .ok (.ireturn, 1)) : W p l e room_1 s m #[Value.ref b] below meth c H [] 600000 7302250 (lw_Z below #[Value.ref b] s) (F0 m pc ls [.int 1]) := by
  intro T hT X
  obtain ⟨fs, hret, hrun, hended, hW, hframe⟩ := X.leave (v := some (.int 1)) (hlocks := hlocks) (fun h => by rw [hr] at h; cases h)
  have hmeth' : T.vm.method? m = some meth := X.method'
  refine ⟨T.setFrames fs, ?_, .returned (some (.int 1)), hrun, hended, rfl, ⟨_, rfl⟩, hW, hframe⟩
  jvm_step X.here [X.here.top, hx, hb, hdg, hmeth', hr, ret, narrow_b1]
  (try refine ⟨rfl, ?_⟩); (try refine ⟨rfl, ?_⟩)
  first | (intro acts; rw [hret _ acts rfl rfl rfl]) | rw [hret _ _ rfl rfl rfl]
  exact Steps.refl _
/-- what holds at the law's entry: the machine, the code, the tables' words (any of lw_tbl by 'hts w (by decide +kernel)'), the script of L ints xs at the cell b, what the Statement gives of the start (any of its parts by flat_of_before) -/
def lw_At (p : Program) (s : State) (m : MethodId) (meth : Method) (c : Code) (b L : Nat) (xs : Nat → Int32) : Prop :=
  p.tables.exec = Jvm.exec ∧ c.code = code ∧ meth.sig.returnType = ret ∧ c.maxLocals = 4 ∧ s.vm.findClass R_law = some m.cls ∧ (∀ w ∈ lw_tbl, w.before #[Value.ref b] s = true) ∧ va_X b L xs s s.heap ∧ b < s.heap.size ∧ meth.locks = false ∧ (Jvm.Cond.and given_1 narrow_1).before #[Value.ref b] s = true
def Steps (E : EV) (h : AH) (K : AH → Prop) : Prop :=
  (∀ a1 : Int32, PC_0 E h K a1) ∧
  (PC_1 E h K) ∧
  (∀ a1 : Int32, PC_2 E h K a1) ∧
  (∀ a1 : Int32, PC_3 E h K a1) ∧
  (∀ a1 a2 a3 : Int32, PC_4 E h K a1 a2 a3) ∧
  (∀ a1 : Int32, PC_5 E h K a1) ∧
  (∀ a1 a2 : Int32, PC_6 E h K a1 a2) ∧
  (∀ a1 : Int32, PC_7 E h K a1) ∧
  (∀ a1 a2 a3 : Int32, PC_8 E h K a1 a2 a3) ∧
  (∀ a1 a2 : Int32, PC_9 E h K a1 a2) ∧
  (∀ a1 a2 a3 a4 a5 : Int32, PC_10 E h K a1 a2 a3 a4 a5) ∧
  (∀ a1 a2 a3 a4 a5 a6 : Int32, PC_11 E h K a1 a2 a3 a4 a5 a6) ∧
  (∀ a1 a2 a3 a4 : Int32, PC_12 E h K a1 a2 a3 a4) ∧
  (∀ a1 a2 a3 a4 : Int32, PC_13 E h K a1 a2 a3 a4) ∧
  (∀ a1 a2 a3 a4 a5 : Int32, PC_14 E h K a1 a2 a3 a4 a5) ∧
  (∀ a1 a2 a3 a4 a5 a6 : Int32, PC_15 E h K a1 a2 a3 a4 a5 a6) ∧
  (∀ a1 : Int32, PC_16 E h K a1) ∧
  (∀ a1 a2 : Int32, PC_17 E h K a1 a2) ∧
  (∀ a1 a2 a3 : Int32, PC_18 E h K a1 a2 a3) ∧
  (∀ a1 : Int32, PC_19 E h K a1) ∧
  (∀ a1 : Int32, PC_20 E h K a1) ∧
  (PC_21 E h K) ∧
  (∀ a1 a2 : Int32, PC_22 E h K a1 a2) ∧
  (PC_23 E h K) ∧
  (∀ a1 : Int32, PC_24 E h K a1) ∧
  (PC_25 E h K) ∧
  (∀ a1 a2 : Int32, PC_26 E h K a1 a2) ∧
  (∀ a1 : Int32, PC_27 E h K a1) ∧
  (∀ a1 a2 a3 : Int32, PC_28 E h K a1 a2 a3) ∧
  (PC_29 E h K) ∧
  (∀ a1 a2 : Int32, PC_30 E h K a1 a2) ∧
  (∀ a1 a2 : Int32, PC_31 E h K a1 a2) ∧
  (∀ a1 a2 : Int32, PC_32 E h K a1 a2) ∧
  (PC_33 E h K) ∧
  (∀ a1 : Int32, PC_34 E h K a1) ∧
  (PC_35 E h K) ∧
  (PC_36 E h K)
theorem vp_in6 {i L : Nat} (hi : i + 7 ≤ L) (hL : L ≤ 4000) : ∀ j : Nat, j ≤ 6 → vp_in (Int32.ofNat i + Int32.ofNat j) L := fun j hj => by
  rw [← Int32.ofNat_add]
  exact vp_in_nI (by omega) (by omega)
theorem pc_mono {E : EV} {h : AH} {K K' : AH → Prop} (hk : ∀ h, K h → K' h) (w : Steps E h K) : Steps E h K' := by
  unfold Steps at *
  refine ⟨?_, ?_, ?_, ?_, ?_, ?_, ?_, ?_, ?_, ?_, ?_, ?_, ?_, ?_, ?_, ?_, ?_, ?_, ?_, ?_, ?_, ?_, ?_, ?_, ?_, ?_, ?_, ?_, ?_, ?_, ?_, ?_, ?_, ?_, ?_, ?_, ?_⟩
  · intro a1
    have w1 := w.1 a1
    unfold PC_0 at *
    exact w1.mono fun v h q => kI.mono (fun r h q => q.mono fun v h q => kI.mono (fun r h q => ⟨q.1, hk _ q.2⟩) v h q) v h q
  · have w1 := w.2.1
    unfold PC_1 at *
    exact w1.mono fun v h q => kI.mono (fun r h q => q.mono fun v h q => kI.mono (fun r h q => ⟨q.1, hk _ q.2⟩) v h q) v h q
  · intro a1
    have w1 := w.2.2.1 a1
    unfold PC_2 at *
    exact w1.mono fun v h q => kI.mono (fun r h q => q.mono fun v h q => kI.mono (fun r h q => ⟨q.1, hk _ q.2⟩) v h q) v h q
  · intro a1
    have w1 := w.2.2.2.1 a1
    unfold PC_3 at *
    exact w1.mono fun v h q => kI.mono (fun r h q => q.mono fun v h q => kI.mono (fun r h q => ⟨q.1, hk _ q.2⟩) v h q) v h q
  · intro a1 a2 a3
    have w1 := w.2.2.2.2.1 a1 a2 a3
    unfold PC_4 at *
    exact w1.mono fun v h q => kI.mono (fun r h q => q.mono fun v h q => kI.mono (fun r h q => ⟨q.1, hk _ q.2⟩) v h q) v h q
  · intro a1
    have w1 := w.2.2.2.2.2.1 a1
    unfold PC_5 at *
    exact w1.mono fun v h q => kI.mono (fun r h q => q.mono fun v h q => kI.mono (fun r h q => ⟨q.1, hk _ q.2⟩) v h q) v h q
  · intro a1 a2
    have w1 := w.2.2.2.2.2.2.1 a1 a2
    unfold PC_6 at *
    exact w1.mono fun v h q => kI.mono (fun r h q => q.mono fun v h q => kI.mono (fun r h q => ⟨q.1, hk _ q.2⟩) v h q) v h q
  · intro a1
    have w1 := w.2.2.2.2.2.2.2.1 a1
    unfold PC_7 at *
    exact w1.mono fun v h q => kI.mono (fun r h q => q.mono fun v h q => kI.mono (fun r h q => ⟨q.1, hk _ q.2⟩) v h q) v h q
  · intro a1 a2 a3
    have w1 := w.2.2.2.2.2.2.2.2.1 a1 a2 a3
    unfold PC_8 at *
    exact w1.mono fun v h q => kI.mono (fun r h q => q.mono fun v h q => kI.mono (fun r h q => ⟨q.1, hk _ q.2⟩) v h q) v h q
  · intro a1 a2
    have w1 := w.2.2.2.2.2.2.2.2.2.1 a1 a2
    unfold PC_9 at *
    exact w1.mono fun v h q => kI.mono (fun r h q => q.mono fun v h q => kI.mono (fun r h q => ⟨q.1, hk _ q.2⟩) v h q) v h q
  · intro a1 a2 a3 a4 a5
    have w1 := w.2.2.2.2.2.2.2.2.2.2.1 a1 a2 a3 a4 a5
    unfold PC_10 at *
    exact w1.mono fun v h q => kI.mono (fun r h q => q.mono fun v h q => kI.mono (fun r h q => ⟨q.1, hk _ q.2⟩) v h q) v h q
  · intro a1 a2 a3 a4 a5 a6
    have w1 := w.2.2.2.2.2.2.2.2.2.2.2.1 a1 a2 a3 a4 a5 a6
    unfold PC_11 at *
    exact w1.mono fun v h q => kI.mono (fun r h q => q.mono fun v h q => kI.mono (fun r h q => ⟨q.1, hk _ q.2⟩) v h q) v h q
  · intro a1 a2 a3 a4
    have w1 := w.2.2.2.2.2.2.2.2.2.2.2.2.1 a1 a2 a3 a4
    unfold PC_12 at *
    exact w1.mono fun v h q => kI.mono (fun r h q => q.mono fun v h q => kI.mono (fun r h q => ⟨q.1, hk _ q.2⟩) v h q) v h q
  · intro a1 a2 a3 a4
    have w1 := w.2.2.2.2.2.2.2.2.2.2.2.2.2.1 a1 a2 a3 a4
    unfold PC_13 at *
    exact w1.mono fun v h q => kI.mono (fun r h q => q.mono fun v h q => kI.mono (fun r h q => ⟨q.1, hk _ q.2⟩) v h q) v h q
  · intro a1 a2 a3 a4 a5
    have w1 := w.2.2.2.2.2.2.2.2.2.2.2.2.2.2.1 a1 a2 a3 a4 a5
    unfold PC_14 at *
    exact w1.mono fun v h q => kI.mono (fun r h q => q.mono fun v h q => kI.mono (fun r h q => ⟨q.1, hk _ q.2⟩) v h q) v h q
  · intro a1 a2 a3 a4 a5 a6
    have w1 := w.2.2.2.2.2.2.2.2.2.2.2.2.2.2.2.1 a1 a2 a3 a4 a5 a6
    unfold PC_15 at *
    exact w1.mono fun v h q => kI.mono (fun r h q => q.mono fun v h q => kI.mono (fun r h q => ⟨q.1, hk _ q.2⟩) v h q) v h q
  · intro a1
    have w1 := w.2.2.2.2.2.2.2.2.2.2.2.2.2.2.2.2.1 a1
    unfold PC_16 at *
    exact w1.mono fun v h q => kI.mono (fun r h q => q.mono fun v h q => kI.mono (fun r h q => ⟨q.1, hk _ q.2⟩) v h q) v h q
  · intro a1 a2
    have w1 := w.2.2.2.2.2.2.2.2.2.2.2.2.2.2.2.2.2.1 a1 a2
    unfold PC_17 at *
    exact w1.mono fun v h q => kI.mono (fun r h q => q.mono fun v h q => kI.mono (fun r h q => ⟨q.1, hk _ q.2⟩) v h q) v h q
  · intro a1 a2 a3
    have w1 := w.2.2.2.2.2.2.2.2.2.2.2.2.2.2.2.2.2.2.1 a1 a2 a3
    unfold PC_18 at *
    exact w1.mono fun v h q => kI.mono (fun r h q => q.mono fun v h q => kI.mono (fun r h q => ⟨q.1, hk _ q.2⟩) v h q) v h q
  · intro a1
    have w1 := w.2.2.2.2.2.2.2.2.2.2.2.2.2.2.2.2.2.2.2.1 a1
    unfold PC_19 at *
    exact w1.mono fun v h q => kI.mono (fun r h q => q.mono fun v h q => kI.mono (fun r h q => ⟨q.1, hk _ q.2⟩) v h q) v h q
  · intro a1
    have w1 := w.2.2.2.2.2.2.2.2.2.2.2.2.2.2.2.2.2.2.2.2.1 a1
    unfold PC_20 at *
    exact w1.mono fun v h q => kI.mono (fun r h q => q.mono fun v h q => kI.mono (fun r h q => ⟨q.1, hk _ q.2⟩) v h q) v h q
  · have w1 := w.2.2.2.2.2.2.2.2.2.2.2.2.2.2.2.2.2.2.2.2.2.1
    unfold PC_21 at *
    exact w1.mono fun v h q => kI.mono (fun r h q => q.mono fun v h q => kI.mono (fun r h q => ⟨q.1, hk _ q.2⟩) v h q) v h q
  · intro a1 a2
    have w1 := w.2.2.2.2.2.2.2.2.2.2.2.2.2.2.2.2.2.2.2.2.2.2.1 a1 a2
    unfold PC_22 at *
    exact w1.mono fun v h q => kI.mono (fun r h q => q.mono fun v h q => kI.mono (fun r h q => ⟨q.1, hk _ q.2⟩) v h q) v h q
  · have w1 := w.2.2.2.2.2.2.2.2.2.2.2.2.2.2.2.2.2.2.2.2.2.2.2.1
    unfold PC_23 at *
    exact w1.mono fun v h q => kI.mono (fun r h q => q.mono fun v h q => kI.mono (fun r h q => ⟨q.1, hk _ q.2⟩) v h q) v h q
  · intro a1
    have w1 := w.2.2.2.2.2.2.2.2.2.2.2.2.2.2.2.2.2.2.2.2.2.2.2.2.1 a1
    unfold PC_24 at *
    exact w1.mono fun v h q => kI.mono (fun r h q => q.mono fun v h q => kI.mono (fun r h q => ⟨q.1, hk _ q.2⟩) v h q) v h q
  · have w1 := w.2.2.2.2.2.2.2.2.2.2.2.2.2.2.2.2.2.2.2.2.2.2.2.2.2.1
    unfold PC_25 at *
    exact w1.mono fun v h q => kI.mono (fun r h q => q.mono fun v h q => kI.mono (fun r h q => ⟨q.1, hk _ q.2⟩) v h q) v h q
  · intro a1 a2
    have w1 := w.2.2.2.2.2.2.2.2.2.2.2.2.2.2.2.2.2.2.2.2.2.2.2.2.2.2.1 a1 a2
    unfold PC_26 at *
    exact w1.mono fun v h q => kI.mono (fun r h q => q.mono fun v h q => kI.mono (fun r h q => ⟨q.1, hk _ q.2⟩) v h q) v h q
  · intro a1
    have w1 := w.2.2.2.2.2.2.2.2.2.2.2.2.2.2.2.2.2.2.2.2.2.2.2.2.2.2.2.1 a1
    unfold PC_27 at *
    exact w1.mono fun v h q => kI.mono (fun r h q => q.mono fun v h q => kI.mono (fun r h q => ⟨q.1, hk _ q.2⟩) v h q) v h q
  · intro a1 a2 a3
    have w1 := w.2.2.2.2.2.2.2.2.2.2.2.2.2.2.2.2.2.2.2.2.2.2.2.2.2.2.2.2.1 a1 a2 a3
    unfold PC_28 at *
    exact w1.mono fun v h q => kI.mono (fun r h q => q.mono fun v h q => kI.mono (fun r h q => ⟨q.1, hk _ q.2⟩) v h q) v h q
  · have w1 := w.2.2.2.2.2.2.2.2.2.2.2.2.2.2.2.2.2.2.2.2.2.2.2.2.2.2.2.2.2.1
    unfold PC_29 at *
    exact w1.mono fun v h q => kI.mono (fun r h q => q.mono fun v h q => kI.mono (fun r h q => ⟨q.1, hk _ q.2⟩) v h q) v h q
  · intro a1 a2
    have w1 := w.2.2.2.2.2.2.2.2.2.2.2.2.2.2.2.2.2.2.2.2.2.2.2.2.2.2.2.2.2.2.1 a1 a2
    unfold PC_30 at *
    exact w1.mono fun v h q => kI.mono (fun r h q => q.mono fun v h q => kI.mono (fun r h q => ⟨q.1, hk _ q.2⟩) v h q) v h q
  · intro a1 a2
    have w1 := w.2.2.2.2.2.2.2.2.2.2.2.2.2.2.2.2.2.2.2.2.2.2.2.2.2.2.2.2.2.2.2.1 a1 a2
    unfold PC_31 at *
    exact w1.mono fun v h q => kI.mono (fun r h q => q.mono fun v h q => kI.mono (fun r h q => ⟨q.1, hk _ q.2⟩) v h q) v h q
  · intro a1 a2
    have w1 := w.2.2.2.2.2.2.2.2.2.2.2.2.2.2.2.2.2.2.2.2.2.2.2.2.2.2.2.2.2.2.2.2.1 a1 a2
    unfold PC_32 at *
    exact w1.mono fun v h q => kI.mono (fun r h q => q.mono fun v h q => kI.mono (fun r h q => ⟨q.1, hk _ q.2⟩) v h q) v h q
  · have w1 := w.2.2.2.2.2.2.2.2.2.2.2.2.2.2.2.2.2.2.2.2.2.2.2.2.2.2.2.2.2.2.2.2.2.1
    unfold PC_33 at *
    exact w1.mono fun v h q => kI.mono (fun r h q => q.mono fun v h q => kI.mono (fun r h q => ⟨q.1, hk _ q.2⟩) v h q) v h q
  · intro a1
    have w1 := w.2.2.2.2.2.2.2.2.2.2.2.2.2.2.2.2.2.2.2.2.2.2.2.2.2.2.2.2.2.2.2.2.2.2.1 a1
    unfold PC_34 at *
    exact w1.mono fun v h q => kI.mono (fun r h q => q.mono fun v h q => kI.mono (fun r h q => ⟨q.1, hk _ q.2⟩) v h q) v h q
  · have w1 := w.2.2.2.2.2.2.2.2.2.2.2.2.2.2.2.2.2.2.2.2.2.2.2.2.2.2.2.2.2.2.2.2.2.2.2.1
    unfold PC_35 at *
    exact w1.mono fun v h q => kI.mono (fun r h q => q.mono fun v h q => kI.mono (fun r h q => ⟨q.1, hk _ q.2⟩) v h q) v h q
  · have w1 := w.2.2.2.2.2.2.2.2.2.2.2.2.2.2.2.2.2.2.2.2.2.2.2.2.2.2.2.2.2.2.2.2.2.2.2.2
    unfold PC_36 at *
    exact w1.mono fun v h q => kI.mono (fun r h q => q.mono fun v h q => kI.mono (fun r h q => ⟨q.1, hk _ q.2⟩) v h q) v h q
theorem law_loop {Inv : Nat → AH → Prop} {NN : Nat} (hNN : NN ≤ 512) (keep : ∀ (z : Nat) (h : AH), Inv z h → Inv (z + 1) h) (steps : ∀ (E : EV) (z : Nat) (h : AH), z < NN → Inv z h → Steps E h (Inv (z + 1))) {p : Program} {l : Launch} {e : Env} {s : State} {m : MethodId} {below : List Frame} {meth : Method} {c : Code} {E : EV} {b L : Nat} {xs : Nat → Int32} (hL : L ≤ 7 * NN) (hr : meth.sig.returnType = ret) (hlocks : meth.locks = false) :
    ∀ (t z : Nat) (ls : Array Slot) (h : AH), LC E (p, l, e, room_1, s, m, #[Value.ref b], below, meth, c, lw_Z below #[Value.ref b] s) ls b L xs (Int32.ofNat (7 * z)) → 7 * z ≤ L + 6 → L + 7 ≤ 7 * z + t → Inv z h → GoF E (p, l, e, room_1, s, m, #[Value.ref b], below, meth, c, lw_Z below #[Value.ref b] s) ls (400 + 4 * z) (12000 + 50 * z) 18 [] h := by
  intro t
  induction t with
  | zero => intro z ls h G h1 h2; exact absurd h2 (by omega)
  | succ t ih =>
    intro z ls h G h1 h2 hI H locs hR hS
    have G0 := G
    obtain ⟨⟨hx, hb, hml, hown, hts, hK, hSt, hNW, hbs, -⟩, hl, hX, hbl, hE⟩ := G
    have hbA : ¬ (fun q => E.1 ≤ q) b := by rw [hE]; exact Nat.not_le.mpr hbl
    refine lv_iload_n hx hb dL_law_18 rfl (lv_at hl 3 rfl) ?_
    refine lv_aload_n hx hb dL_law_19 rfl (lv_at hl 0 rfl) ?_
    refine va_slen hx hb hX (by rw [hE] at *; exact hbl) hbA hS dL_law_20 ?_
    refine lv_bipush (v := 7) hx hb dL_law_21 (by decide) ?_
    refine lv_isub hx hb dL_law_23 ?_
    have h7 : (Int32.ofNat L - 7).toInt = (L : Int) - 7 := by
      rw [Int32.toInt_sub, i32_lt (by omega)]
      have : (7 : Int32).toInt = 7 := by decide
      rw [this]
      simp only [Int.bmod]; omega
    have hz : (Int32.ofNat (7 * z)).toInt = 7 * (z : Int) := by rw [i32_lt (by omega)]; omega
    refine lv_icmp_gt (tgt := 1377) hx hb dL_law_24 (by decide) (fun hc => ?_) (fun hc => ?_)
    · refine lv_iconst (v := 1) hx hb dL_law_1377 (by decide) ?_
      refine va_forget (fun q hq => by have := hS.2.2 q hq; rw [hE] at this; exact this) ?_
      refine W.widen (k := 600000) (n := 7302250) (by omega) (by omega) ?_
      exact lw_ret hx hb hr hlocks dL_law_1378
    · rw [Int32.lt_iff_toInt_lt, h7, hz] at hc
      have hzL : 7 * z + 7 ≤ L := by omega
      have hin := vp_in6 hzL (by omega)
      refine lv_aload_n hx hb dL_law_27 rfl (lv_at hl 0 rfl) ?_
      refine lv_iload_n hx hb dL_law_28 rfl (lv_at hl 3 rfl) ?_
      refine va_sld hx hb hX (by rw [hE] at *; exact hbl) hbA hS (vp_in_nI (by omega) (by omega)) dL_law_29 ?_
      refine lv_bipush (v := 63) hx hb dL_law_30 (by decide) ?_
      refine lv_iand hx hb dL_law_32 ?_
      have stp := steps E z h (by omega) hI
      have fin : ∀ h', Inv (z + 1) h' → GoF E (p, l, e, room_1, s, m, #[Value.ref b], below, meth, c, lw_Z below #[Value.ref b] s) ls (400 + 4 * z + 4) (12000 + 50 * z + 50) 1371 [] h' := by
        intro h' hI' H1 locs1 hR1 hS1
        refine lv_iinc (v := Int32.ofNat (7 * (z + 1))) (lv' := [(3, .int (Int32.ofNat (7 * (z + 1)))), (0, .ref b), (1, toV E (aP (some 0))), (2, toV E (aP (some 313)))]) hx hb dL_law_1371 hl (k := 3) rfl (by rw [show (7 * (z + 1)) = 7 * z + 7 by omega, Int32.ofNat_add]; rfl) (by decide) rfl (fun ls2 hl2 => ?_)
        refine lv_goto (tgt := 18) hx hb dL_law_1374 (by decide) ?_
        have := ih (z + 1) ls2 h' ⟨G0.1, lv_sub hl2 [1, 2, 3, 0] rfl, hX, hbl, hE⟩ (by omega) (by omega) hI'
        rw [show 400 + 4 * (z + 1) = 400 + 4 * z + 4 by omega, show 12000 + 50 * (z + 1) = 12000 + 50 * z + 50 by omega] at this
        exact this H1 locs1 hR1 hS1
      have stp := pc_mono fin stp
      unfold Steps at stp
      by_cases ho : (xs (Int32.ofNat (7 * z)).toNatClampNeg &&& 63).toInt < 0 ∨ 36 < (xs (Int32.ofNat (7 * z)).toNatClampNeg &&& 63).toInt
      · exact lv_tableOut hx hb dL_law_33 ho (tgt := 1371) rfl (f_wide (E := E) (st := []) (by omega) (by omega) (fin h (keep z h hI)) H locs hR hS)
      by_cases ho0 : (xs (Int32.ofNat (7 * z)).toNatClampNeg &&& 63).toInt = 0
      · exact lv_tableIn hx hb dL_law_33 (by omega) (by omega) (off := 163) (by rw [ho0]; rfl) (tgt := 196) rfl (lc_0 G0 (by omega) (by omega) hin (stp.1 _) H locs hR hS)
      by_cases ho1 : (xs (Int32.ofNat (7 * z)).toNatClampNeg &&& 63).toInt = 1
      · exact lv_tableIn hx hb dL_law_33 (by omega) (by omega) (off := 186) (by rw [ho1]; rfl) (tgt := 219) rfl (lc_1 G0 (by omega) (by omega) hin (stp.2.1) H locs hR hS)
      by_cases ho2 : (xs (Int32.ofNat (7 * z)).toNatClampNeg &&& 63).toInt = 2
      · exact lv_tableIn hx hb dL_law_33 (by omega) (by omega) (off := 199) (by rw [ho2]; rfl) (tgt := 232) rfl (lc_2 G0 (by omega) (by omega) hin (stp.2.2.1 _) H locs hR hS)
      by_cases ho3 : (xs (Int32.ofNat (7 * z)).toNatClampNeg &&& 63).toInt = 3
      · exact lv_tableIn hx hb dL_law_33 (by omega) (by omega) (off := 222) (by rw [ho3]; rfl) (tgt := 255) rfl (lc_3 G0 (by omega) (by omega) hin (stp.2.2.2.1 _) H locs hR hS)
      by_cases ho4 : (xs (Int32.ofNat (7 * z)).toNatClampNeg &&& 63).toInt = 4
      · exact lv_tableIn hx hb dL_law_33 (by omega) (by omega) (off := 245) (by rw [ho4]; rfl) (tgt := 278) rfl (lc_4 G0 (by omega) (by omega) hin (stp.2.2.2.2.1 _ _ _) H locs hR hS)
      by_cases ho5 : (xs (Int32.ofNat (7 * z)).toNatClampNeg &&& 63).toInt = 5
      · exact lv_tableIn hx hb dL_law_33 (by omega) (by omega) (off := 288) (by rw [ho5]; rfl) (tgt := 321) rfl (lc_5 G0 (by omega) (by omega) hin (stp.2.2.2.2.2.1 _) H locs hR hS)
      by_cases ho6 : (xs (Int32.ofNat (7 * z)).toNatClampNeg &&& 63).toInt = 6
      · exact lv_tableIn hx hb dL_law_33 (by omega) (by omega) (off := 311) (by rw [ho6]; rfl) (tgt := 344) rfl (lc_6 G0 (by omega) (by omega) hin (stp.2.2.2.2.2.2.1 _ _) H locs hR hS)
      by_cases ho7 : (xs (Int32.ofNat (7 * z)).toNatClampNeg &&& 63).toInt = 7
      · exact lv_tableIn hx hb dL_law_33 (by omega) (by omega) (off := 344) (by rw [ho7]; rfl) (tgt := 377) rfl (lc_7 G0 (by omega) (by omega) hin (stp.2.2.2.2.2.2.2.1 _) H locs hR hS)
      by_cases ho8 : (xs (Int32.ofNat (7 * z)).toNatClampNeg &&& 63).toInt = 8
      · exact lv_tableIn hx hb dL_law_33 (by omega) (by omega) (off := 367) (by rw [ho8]; rfl) (tgt := 400) rfl (lc_8 G0 (by omega) (by omega) hin (stp.2.2.2.2.2.2.2.2.1 _ _ _) H locs hR hS)
      by_cases ho9 : (xs (Int32.ofNat (7 * z)).toNatClampNeg &&& 63).toInt = 9
      · exact lv_tableIn hx hb dL_law_33 (by omega) (by omega) (off := 410) (by rw [ho9]; rfl) (tgt := 443) rfl (lc_9 G0 (by omega) (by omega) hin (stp.2.2.2.2.2.2.2.2.2.1 _ _) H locs hR hS)
      by_cases ho10 : (xs (Int32.ofNat (7 * z)).toNatClampNeg &&& 63).toInt = 10
      · exact lv_tableIn hx hb dL_law_33 (by omega) (by omega) (off := 443) (by rw [ho10]; rfl) (tgt := 476) rfl (lc_10 G0 (by omega) (by omega) hin (stp.2.2.2.2.2.2.2.2.2.2.1 _ _ _ _ _) H locs hR hS)
      by_cases ho11 : (xs (Int32.ofNat (7 * z)).toNatClampNeg &&& 63).toInt = 11
      · exact lv_tableIn hx hb dL_law_33 (by omega) (by omega) (off := 506) (by rw [ho11]; rfl) (tgt := 539) rfl (lc_11 G0 (by omega) (by omega) hin (stp.2.2.2.2.2.2.2.2.2.2.2.1 _ _ _ _ _ _) H locs hR hS)
      by_cases ho12 : (xs (Int32.ofNat (7 * z)).toNatClampNeg &&& 63).toInt = 12
      · exact lv_tableIn hx hb dL_law_33 (by omega) (by omega) (off := 581) (by rw [ho12]; rfl) (tgt := 614) rfl (lc_12 G0 (by omega) (by omega) hin (stp.2.2.2.2.2.2.2.2.2.2.2.2.1 _ _ _ _) H locs hR hS)
      by_cases ho13 : (xs (Int32.ofNat (7 * z)).toNatClampNeg &&& 63).toInt = 13
      · exact lv_tableIn hx hb dL_law_33 (by omega) (by omega) (off := 634) (by rw [ho13]; rfl) (tgt := 667) rfl (lc_13 G0 (by omega) (by omega) hin (stp.2.2.2.2.2.2.2.2.2.2.2.2.2.1 _ _ _ _) H locs hR hS)
      by_cases ho14 : (xs (Int32.ofNat (7 * z)).toNatClampNeg &&& 63).toInt = 14
      · exact lv_tableIn hx hb dL_law_33 (by omega) (by omega) (off := 687) (by rw [ho14]; rfl) (tgt := 720) rfl (lc_14 G0 (by omega) (by omega) hin (stp.2.2.2.2.2.2.2.2.2.2.2.2.2.2.1 _ _ _ _ _) H locs hR hS)
      by_cases ho15 : (xs (Int32.ofNat (7 * z)).toNatClampNeg &&& 63).toInt = 15
      · exact lv_tableIn hx hb dL_law_33 (by omega) (by omega) (off := 750) (by rw [ho15]; rfl) (tgt := 783) rfl (lc_15 G0 (by omega) (by omega) hin (stp.2.2.2.2.2.2.2.2.2.2.2.2.2.2.2.1 _ _ _ _ _ _) H locs hR hS)
      by_cases ho16 : (xs (Int32.ofNat (7 * z)).toNatClampNeg &&& 63).toInt = 16
      · exact lv_tableIn hx hb dL_law_33 (by omega) (by omega) (off := 825) (by rw [ho16]; rfl) (tgt := 858) rfl (lc_16 G0 (by omega) (by omega) hin (stp.2.2.2.2.2.2.2.2.2.2.2.2.2.2.2.2.1 _) H locs hR hS)
      by_cases ho17 : (xs (Int32.ofNat (7 * z)).toNatClampNeg &&& 63).toInt = 17
      · exact lv_tableIn hx hb dL_law_33 (by omega) (by omega) (off := 848) (by rw [ho17]; rfl) (tgt := 881) rfl (lc_17 G0 (by omega) (by omega) hin (stp.2.2.2.2.2.2.2.2.2.2.2.2.2.2.2.2.2.1 _ _) H locs hR hS)
      by_cases ho18 : (xs (Int32.ofNat (7 * z)).toNatClampNeg &&& 63).toInt = 18
      · exact lv_tableIn hx hb dL_law_33 (by omega) (by omega) (off := 881) (by rw [ho18]; rfl) (tgt := 914) rfl (lc_18 G0 (by omega) (by omega) hin (stp.2.2.2.2.2.2.2.2.2.2.2.2.2.2.2.2.2.2.1 _ _ _) H locs hR hS)
      by_cases ho19 : (xs (Int32.ofNat (7 * z)).toNatClampNeg &&& 63).toInt = 19
      · exact lv_tableIn hx hb dL_law_33 (by omega) (by omega) (off := 924) (by rw [ho19]; rfl) (tgt := 957) rfl (lc_19 G0 (by omega) (by omega) hin (stp.2.2.2.2.2.2.2.2.2.2.2.2.2.2.2.2.2.2.2.1 _) H locs hR hS)
      by_cases ho20 : (xs (Int32.ofNat (7 * z)).toNatClampNeg &&& 63).toInt = 20
      · exact lv_tableIn hx hb dL_law_33 (by omega) (by omega) (off := 947) (by rw [ho20]; rfl) (tgt := 980) rfl (lc_20 G0 (by omega) (by omega) hin (stp.2.2.2.2.2.2.2.2.2.2.2.2.2.2.2.2.2.2.2.2.1 _) H locs hR hS)
      by_cases ho21 : (xs (Int32.ofNat (7 * z)).toNatClampNeg &&& 63).toInt = 21
      · exact lv_tableIn hx hb dL_law_33 (by omega) (by omega) (off := 970) (by rw [ho21]; rfl) (tgt := 1003) rfl (lc_21 G0 (by omega) (by omega) hin (stp.2.2.2.2.2.2.2.2.2.2.2.2.2.2.2.2.2.2.2.2.2.1) H locs hR hS)
      by_cases ho22 : (xs (Int32.ofNat (7 * z)).toNatClampNeg &&& 63).toInt = 22
      · exact lv_tableIn hx hb dL_law_33 (by omega) (by omega) (off := 983) (by rw [ho22]; rfl) (tgt := 1016) rfl (lc_22 G0 (by omega) (by omega) hin (stp.2.2.2.2.2.2.2.2.2.2.2.2.2.2.2.2.2.2.2.2.2.2.1 _ _) H locs hR hS)
      by_cases ho23 : (xs (Int32.ofNat (7 * z)).toNatClampNeg &&& 63).toInt = 23
      · exact lv_tableIn hx hb dL_law_33 (by omega) (by omega) (off := 1016) (by rw [ho23]; rfl) (tgt := 1049) rfl (lc_23 G0 (by omega) (by omega) hin (stp.2.2.2.2.2.2.2.2.2.2.2.2.2.2.2.2.2.2.2.2.2.2.2.1) H locs hR hS)
      by_cases ho24 : (xs (Int32.ofNat (7 * z)).toNatClampNeg &&& 63).toInt = 24
      · exact lv_tableIn hx hb dL_law_33 (by omega) (by omega) (off := 1029) (by rw [ho24]; rfl) (tgt := 1062) rfl (lc_24 G0 (by omega) (by omega) hin (stp.2.2.2.2.2.2.2.2.2.2.2.2.2.2.2.2.2.2.2.2.2.2.2.2.1 _) H locs hR hS)
      by_cases ho25 : (xs (Int32.ofNat (7 * z)).toNatClampNeg &&& 63).toInt = 25
      · exact lv_tableIn hx hb dL_law_33 (by omega) (by omega) (off := 1052) (by rw [ho25]; rfl) (tgt := 1085) rfl (lc_25 G0 (by omega) (by omega) hin (stp.2.2.2.2.2.2.2.2.2.2.2.2.2.2.2.2.2.2.2.2.2.2.2.2.2.1) H locs hR hS)
      by_cases ho26 : (xs (Int32.ofNat (7 * z)).toNatClampNeg &&& 63).toInt = 26
      · exact lv_tableIn hx hb dL_law_33 (by omega) (by omega) (off := 1065) (by rw [ho26]; rfl) (tgt := 1098) rfl (lc_26 G0 (by omega) (by omega) hin (stp.2.2.2.2.2.2.2.2.2.2.2.2.2.2.2.2.2.2.2.2.2.2.2.2.2.2.1 _ _) H locs hR hS)
      by_cases ho27 : (xs (Int32.ofNat (7 * z)).toNatClampNeg &&& 63).toInt = 27
      · exact lv_tableIn hx hb dL_law_33 (by omega) (by omega) (off := 1098) (by rw [ho27]; rfl) (tgt := 1131) rfl (lc_27 G0 (by omega) (by omega) hin (stp.2.2.2.2.2.2.2.2.2.2.2.2.2.2.2.2.2.2.2.2.2.2.2.2.2.2.2.1 _) H locs hR hS)
      by_cases ho28 : (xs (Int32.ofNat (7 * z)).toNatClampNeg &&& 63).toInt = 28
      · exact lv_tableIn hx hb dL_law_33 (by omega) (by omega) (off := 1121) (by rw [ho28]; rfl) (tgt := 1154) rfl (lc_28 G0 (by omega) (by omega) hin (stp.2.2.2.2.2.2.2.2.2.2.2.2.2.2.2.2.2.2.2.2.2.2.2.2.2.2.2.2.1 _ _ _) H locs hR hS)
      by_cases ho29 : (xs (Int32.ofNat (7 * z)).toNatClampNeg &&& 63).toInt = 29
      · exact lv_tableIn hx hb dL_law_33 (by omega) (by omega) (off := 1164) (by rw [ho29]; rfl) (tgt := 1197) rfl (lc_29 G0 (by omega) (by omega) hin (stp.2.2.2.2.2.2.2.2.2.2.2.2.2.2.2.2.2.2.2.2.2.2.2.2.2.2.2.2.2.1) H locs hR hS)
      by_cases ho30 : (xs (Int32.ofNat (7 * z)).toNatClampNeg &&& 63).toInt = 30
      · exact lv_tableIn hx hb dL_law_33 (by omega) (by omega) (off := 1177) (by rw [ho30]; rfl) (tgt := 1210) rfl (lc_30 G0 (by omega) (by omega) hin (stp.2.2.2.2.2.2.2.2.2.2.2.2.2.2.2.2.2.2.2.2.2.2.2.2.2.2.2.2.2.2.1 _ _) H locs hR hS)
      by_cases ho31 : (xs (Int32.ofNat (7 * z)).toNatClampNeg &&& 63).toInt = 31
      · exact lv_tableIn hx hb dL_law_33 (by omega) (by omega) (off := 1210) (by rw [ho31]; rfl) (tgt := 1243) rfl (lc_31 G0 (by omega) (by omega) hin (stp.2.2.2.2.2.2.2.2.2.2.2.2.2.2.2.2.2.2.2.2.2.2.2.2.2.2.2.2.2.2.2.1 _ _) H locs hR hS)
      by_cases ho32 : (xs (Int32.ofNat (7 * z)).toNatClampNeg &&& 63).toInt = 32
      · exact lv_tableIn hx hb dL_law_33 (by omega) (by omega) (off := 1243) (by rw [ho32]; rfl) (tgt := 1276) rfl (lc_32 G0 (by omega) (by omega) hin (stp.2.2.2.2.2.2.2.2.2.2.2.2.2.2.2.2.2.2.2.2.2.2.2.2.2.2.2.2.2.2.2.2.1 _ _) H locs hR hS)
      by_cases ho33 : (xs (Int32.ofNat (7 * z)).toNatClampNeg &&& 63).toInt = 33
      · exact lv_tableIn hx hb dL_law_33 (by omega) (by omega) (off := 1276) (by rw [ho33]; rfl) (tgt := 1309) rfl (lc_33 G0 (by omega) (by omega) hin (stp.2.2.2.2.2.2.2.2.2.2.2.2.2.2.2.2.2.2.2.2.2.2.2.2.2.2.2.2.2.2.2.2.2.1) H locs hR hS)
      by_cases ho34 : (xs (Int32.ofNat (7 * z)).toNatClampNeg &&& 63).toInt = 34
      · exact lv_tableIn hx hb dL_law_33 (by omega) (by omega) (off := 1289) (by rw [ho34]; rfl) (tgt := 1322) rfl (lc_34 G0 (by omega) (by omega) hin (stp.2.2.2.2.2.2.2.2.2.2.2.2.2.2.2.2.2.2.2.2.2.2.2.2.2.2.2.2.2.2.2.2.2.2.1 _) H locs hR hS)
      by_cases ho35 : (xs (Int32.ofNat (7 * z)).toNatClampNeg &&& 63).toInt = 35
      · exact lv_tableIn hx hb dL_law_33 (by omega) (by omega) (off := 1312) (by rw [ho35]; rfl) (tgt := 1345) rfl (lc_35 G0 (by omega) (by omega) hin (stp.2.2.2.2.2.2.2.2.2.2.2.2.2.2.2.2.2.2.2.2.2.2.2.2.2.2.2.2.2.2.2.2.2.2.2.1) H locs hR hS)
      have ho36 : (xs (Int32.ofNat (7 * z)).toNatClampNeg &&& 63).toInt = 36 := by omega
      exact lv_tableIn hx hb dL_law_33 (by omega) (by omega) (off := 1325) (by rw [ho36]; rfl) (tgt := 1358) rfl (lc_36 G0 (by omega) (by omega) hin (stp.2.2.2.2.2.2.2.2.2.2.2.2.2.2.2.2.2.2.2.2.2.2.2.2.2.2.2.2.2.2.2.2.2.2.2.2) H locs hR hS)
