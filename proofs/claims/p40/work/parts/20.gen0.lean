theorem dX0_commonDivisor_0 : decode cX0_commonDivisor 0 = .ok (.aload_n 0, 1) := by decide +kernel
theorem dX0_commonDivisor_1 : decode cX0_commonDivisor 1 = .ok (.getfield 9, 3) := by decide +kernel
theorem dX0_commonDivisor_4 : decode cX0_commonDivisor 4 = .ok (.lstore_n 1, 1) := by decide +kernel
theorem dX0_commonDivisor_5 : decode cX0_commonDivisor 5 = .ok (.aload_n 0, 1) := by decide +kernel
theorem dX0_commonDivisor_6 : decode cX0_commonDivisor 6 = .ok (.getfield 15, 3) := by decide +kernel
theorem dX0_commonDivisor_9 : decode cX0_commonDivisor 9 = .ok (.lstore_n 3, 1) := by decide +kernel
theorem dX0_commonDivisor_10 : decode cX0_commonDivisor 10 = .ok (.iconst 0, 1) := by decide +kernel
theorem dX0_commonDivisor_11 : decode cX0_commonDivisor 11 = .ok (.istore 5, 2) := by decide +kernel
theorem dX0_commonDivisor_13 : decode cX0_commonDivisor 13 = .ok (.iload 5, 2) := by decide +kernel
theorem dX0_commonDivisor_15 : decode cX0_commonDivisor 15 = .ok (.ldc 26, 2) := by decide +kernel
theorem dX0_commonDivisor_17 : decode cX0_commonDivisor 17 = .ok (.if_icmp .ge 25, 3) := by decide +kernel
theorem dX0_commonDivisor_20 : decode cX0_commonDivisor 20 = .ok (.lload_n 3, 1) := by decide +kernel
theorem dX0_commonDivisor_21 : decode cX0_commonDivisor 21 = .ok (.lconst 0, 1) := by decide +kernel
theorem dX0_commonDivisor_22 : decode cX0_commonDivisor 22 = .ok (.lcmp, 1) := by decide +kernel
theorem dX0_commonDivisor_23 : decode cX0_commonDivisor 23 = .ok (.ifCond .eq 19, 3) := by decide +kernel
theorem dX0_commonDivisor_26 : decode cX0_commonDivisor 26 = .ok (.lload_n 1, 1) := by decide +kernel
theorem dX0_commonDivisor_27 : decode cX0_commonDivisor 27 = .ok (.lload_n 3, 1) := by decide +kernel
theorem dX0_commonDivisor_28 : decode cX0_commonDivisor 28 = .ok (.lrem, 1) := by decide +kernel
theorem dX0_commonDivisor_29 : decode cX0_commonDivisor 29 = .ok (.lstore 6, 2) := by decide +kernel
theorem dX0_commonDivisor_31 : decode cX0_commonDivisor 31 = .ok (.lload_n 3, 1) := by decide +kernel
theorem dX0_commonDivisor_32 : decode cX0_commonDivisor 32 = .ok (.lstore_n 1, 1) := by decide +kernel
theorem dX0_commonDivisor_33 : decode cX0_commonDivisor 33 = .ok (.lload 6, 2) := by decide +kernel
theorem dX0_commonDivisor_35 : decode cX0_commonDivisor 35 = .ok (.lstore_n 3, 1) := by decide +kernel
theorem dX0_commonDivisor_36 : decode cX0_commonDivisor 36 = .ok (.iinc 5 1, 3) := by decide +kernel
theorem dX0_commonDivisor_39 : decode cX0_commonDivisor 39 = .ok (.goto (-26), 3) := by decide +kernel
theorem dX0_commonDivisor_42 : decode cX0_commonDivisor 42 = .ok (.lload_n 1, 1) := by decide +kernel
theorem dX0_commonDivisor_43 : decode cX0_commonDivisor 43 = .ok (.lreturn, 1) := by decide +kernel
abbrev rmX0_commonDivisor : Room := { frames := 0, cells := 0, slots := 0, locals := 0 }
abbrev sX0_commonDivisor (E : EV) : List AV → AH → (Option AV → AH → Prop) → Prop := Spec E yX0_commonDivisor cX0_commonDivisor 8 (some .long) rmX0_commonDivisor
theorem mX0_commonDivisor : Mt yX0_commonDivisor cX0_commonDivisor 8 (some .long) 0 := ⟨k498, k8, by decide +kernel⟩
theorem vX0_commonDivisor : MtV yX0_commonDivisor 0 := ⟨k497, kp5, by decide, (RX0, TX0, 2), rfl, rfl⟩
def PX0_commonDivisor_13 (E : EV) (post : Option AV → AH → Prop) (J13 : AH → Int64 → Int64 → Int32 → Prop) (h : AH) (l1 : Int64) (l3 : Int64) (l5 : Int32) : Prop :=
  ((1000000 : Int32) ≤ l5 → post (some (aJ l1)) h) ∧ (¬ (1000000 : Int32) ≤ l5 → ((lg_cmp l3 (0 : Int64)) = 0 → post (some (aJ l1)) h) ∧ (¬ (lg_cmp l3 (0 : Int64)) = 0 → ¬ l3 = 0 ∧ (∀ v1, v1 = (l1 - l1 / l3 * l3) → J13 h l3 v1 (l5 + (1 : Int32)))))
theorem bX0_commonDivisor_13 {E : EV} {X : AX} {post : Option AV → AH → Prop} (C : Cb E X cX0_commonDivisor RX0 8 rmX0_commonDivisor) (D : Cr E X (some .long) rmX0_commonDivisor "commonDivisor" post) {J13 : AH → Int64 → Int64 → Int32 → Prop} (g13 : ∀ (h : AH) (l1 : Int64) (l3 : Int64) (l5 : Int32), J13 h l1 l3 l5 → Go E X 8 0 0 13 [(1, aJ l1), (3, aJ l3), (5, aI l5)] [] h) {h : AH} {l1 : Int64} {l3 : Int64} {l5 : Int32} (w : PX0_commonDivisor_13 E post J13 h l1 l3 l5) : Go E X 8 0 0 13 [(1, aJ l1), (3, aJ l3), (5, aI l5)] [] h := by
  unfold PX0_commonDivisor_13 at w
  refine r_iload C dX0_commonDivisor_13 2 rfl ?_
  refine r_ldc (v := 1000000) C dX0_commonDivisor_15 k499 ?_
  refine r_icmp_ge C dX0_commonDivisor_17 (tgt := 42) rfl (fun hc => ?_) (fun hc => ?_)
  · have w := w.1 hc
    refine r_lload_n C dX0_commonDivisor_42 rfl 0 rfl ?_
    exact r_lret C D rfl (Nat.zero_le _) (Nat.zero_le _) dX0_commonDivisor_43 w
  · have w := w.2 hc
    refine r_lload_n C dX0_commonDivisor_20 rfl 1 rfl ?_
    refine r_lconst (v := 0) C dX0_commonDivisor_21 rfl ?_
    refine r_lcmp C dX0_commonDivisor_22 ?_
    refine r_if_eq C dX0_commonDivisor_23 (tgt := 42) rfl (fun hc => ?_) (fun hc => ?_)
    · have w := w.1 hc
      refine r_lload_n C dX0_commonDivisor_42 rfl 0 rfl ?_
      exact r_lret C D rfl (Nat.zero_le _) (Nat.zero_le _) dX0_commonDivisor_43 w
    · have w := w.2 hc
      refine r_lload_n C dX0_commonDivisor_26 rfl 0 rfl ?_
      refine r_lload_n C dX0_commonDivisor_27 rfl 1 rfl ?_
      refine r_lrem C dX0_commonDivisor_28 w.1 ?_
      have w := w.2
      refine r_lstore C dX0_commonDivisor_29 (by decide) rfl ?_
      have w := w _ rfl
      skip
      refine r_lload_n C dX0_commonDivisor_31 rfl 2 rfl ?_
      refine r_lstore_n C dX0_commonDivisor_32 rfl (by decide) rfl ?_
      refine r_lload C dX0_commonDivisor_33 1 rfl ?_
      refine r_lstore_n C dX0_commonDivisor_35 rfl (by decide) rfl ?_
      refine r_iinc C dX0_commonDivisor_36 3 rfl (v := 1) rfl (by decide) rfl ?_
      refine r_goto C dX0_commonDivisor_39 (tgt := 13) rfl ?_
      exact r_sub [2, 1, 0] rfl (g13 h l3 (l1 - l1 / l3 * l3) (l5 + (1 : Int32)) w)
theorem lpX0_commonDivisor_13 {E : EV} {X : AX} {post : Option AV → AH → Prop} (C : Cb E X cX0_commonDivisor RX0 8 rmX0_commonDivisor) (D : Cr E X (some .long) rmX0_commonDivisor "commonDivisor" post) (I : Nat → AH → Int64 → Int64 → Int32 → Prop) (step : ∀ (z : Nat) (h : AH) (l1 : Int64) (l3 : Int64) (l5 : Int32), I z h l1 l3 l5 → PX0_commonDivisor_13 E post (fun h l1 l3 l5 => ∃ z', z' < z ∧ I z' h l1 l3 l5) h l1 l3 l5) : ∀ (z : Nat) (h : AH) (l1 : Int64) (l3 : Int64) (l5 : Int32), I z h l1 l3 l5 → Go E X 8 0 0 13 [(1, aJ l1), (3, aJ l3), (5, aI l5)] [] h := by
  intro z
  induction z using Nat.strongRecOn with
  | _ z ih =>
    intro h l1 l3 l5 hI
    exact bX0_commonDivisor_13 C D (fun h l1 l3 l5 hJ => by obtain ⟨z', hz, hi⟩ := hJ; exact ih z' hz h l1 l3 l5 hi) (step z h l1 l3 l5 hI)
def PX0_commonDivisor_0 (E : EV) (post : Option AV → AH → Prop) (J13 : AH → Int64 → Int64 → Int32 → Prop) (h : AH) (l0 : Option Nat) : Prop :=
  rdJ h l0 0 0 fun x1 => rdJ h l0 0 1 fun x3 => J13 h x1 x3 (0 : Int32)
theorem bX0_commonDivisor_0 {E : EV} {X : AX} {post : Option AV → AH → Prop} (C : Cb E X cX0_commonDivisor RX0 8 rmX0_commonDivisor) (D : Cr E X (some .long) rmX0_commonDivisor "commonDivisor" post) {J13 : AH → Int64 → Int64 → Int32 → Prop} (g13 : ∀ (h : AH) (l1 : Int64) (l3 : Int64) (l5 : Int32), J13 h l1 l3 l5 → Go E X 8 0 0 13 [(1, aJ l1), (3, aJ l3), (5, aI l5)] [] h) {h : AH} {l0 : Option Nat} (w : PX0_commonDivisor_0 E post J13 h l0) : Go E X 8 0 0 0 [(0, aP l0)] [] h := by
  unfold PX0_commonDivisor_0 at w
  refine r_aload_n C dX0_commonDivisor_0 rfl 0 rfl ?_
  refine r_getJ C fcX0 (f := 0) (by decide) rfl k174 dX0_commonDivisor_1 (w.mono fun x1 w => ?_)
  refine r_lstore_n C dX0_commonDivisor_4 rfl (by decide) rfl ?_
  refine r_aload_n C dX0_commonDivisor_5 rfl 1 rfl ?_
  refine r_getJ C fcX0 (f := 1) (by decide) rfl k176 dX0_commonDivisor_6 (w.mono fun x3 w => ?_)
  refine r_lstore_n C dX0_commonDivisor_9 rfl (by decide) rfl ?_
  refine r_iconst (v := 0) C dX0_commonDivisor_10 rfl ?_
  refine r_istore C dX0_commonDivisor_11 (by decide) rfl ?_
  exact r_sub [2, 1, 0] rfl (g13 h x1 x3 (0 : Int32) w)
theorem eX0_commonDivisor {E : EV} {post : Option AV → AH → Prop} {h : AH} {l0 : Option Nat} {J13 : AH → Int64 → Int64 → Int32 → Prop} (g13 : ∀ X : AX, Cb E X cX0_commonDivisor RX0 8 rmX0_commonDivisor → Cr E X (some .long) rmX0_commonDivisor "commonDivisor" post → ∀ (h : AH) (l1 : Int64) (l3 : Int64) (l5 : Int32), J13 h l1 l3 l5 → Go E X 8 0 0 13 [(1, aJ l1), (3, aJ l3), (5, aI l5)] [] h) (w : PX0_commonDivisor_0 E post J13 h l0) : sX0_commonDivisor E [aP l0] h post := Spec.of RX0 rfl rfl (Nat.le_of_ble_eq_true rfl) fun X C D => bX0_commonDivisor_0 C D (g13 X C D) w
theorem dX0_init_0 : decode cX0_init 0 = .ok (.aload_n 0, 1) := by decide +kernel
theorem dX0_init_1 : decode cX0_init 1 = .ok (.invokespecial 3, 3) := by decide +kernel
theorem dX0_init_4 : decode cX0_init 4 = .ok (.return_, 1) := by decide +kernel
abbrev rmX0_init : Room := { frames := 1, cells := 0, slots := 0, locals := 40 }
abbrev sX0_init (E : EV) : List AV → AH → (Option AV → AH → Prop) → Prop := Spec E yX0_init cX0_init 1 none rmX0_init
theorem mX0_init : Mt yX0_init cX0_init 1 none 0 := ⟨k172, k8, by decide +kernel⟩
theorem vX0_init : MtI yX0_init := ⟨rfl, k171⟩
def PX0_init_0 (E : EV) (post : Option AV → AH → Prop) (h : AH) (l0 : Nat) : Prop :=
  post none h
theorem bX0_init_0 {E : EV} {X : AX} {post : Option AV → AH → Prop} (C : Cb E X cX0_init RX0 1 rmX0_init) (D : Cr E X none rmX0_init "<init>" post) {h : AH} {l0 : Nat} (w : PX0_init_0 E post h l0) : Go E X 1 0 0 0 [(0, aP (some l0))] [] h := by
  unfold PX0_init_0 at w
  refine r_aload_n C dX0_init_0 rfl 0 rfl ?_
  refine r_objInit C k173 k19 k20 (by decide) (by decide) (Nat.le_of_ble_eq_true rfl) dX0_init_1 ?_
  exact r_vret C D rfl (Nat.zero_le _) (Nat.zero_le _) dX0_init_4 w
theorem eX0_init {E : EV} {post : Option AV → AH → Prop} {h : AH} {l0 : Nat} (w : PX0_init_0 E post h l0) : sX0_init E [aP (some l0)] h post := Spec.of RX0 rfl rfl (Nat.le_of_ble_eq_true rfl) fun X C D => bX0_init_0 C D w
theorem dX0_set_0 : decode cX0_set 0 = .ok (.aload_n 0, 1) := by decide +kernel
theorem dX0_set_1 : decode cX0_set 1 = .ok (.lload_n 1, 1) := by decide +kernel
theorem dX0_set_2 : decode cX0_set 2 = .ok (.putfield 9, 3) := by decide +kernel
theorem dX0_set_5 : decode cX0_set 5 = .ok (.aload_n 0, 1) := by decide +kernel
theorem dX0_set_6 : decode cX0_set 6 = .ok (.lload_n 3, 1) := by decide +kernel
theorem dX0_set_7 : decode cX0_set 7 = .ok (.putfield 15, 3) := by decide +kernel
theorem dX0_set_10 : decode cX0_set 10 = .ok (.return_, 1) := by decide +kernel
abbrev rmX0_set : Room := { frames := 0, cells := 0, slots := 0, locals := 0 }
abbrev sX0_set (E : EV) : List AV → AH → (Option AV → AH → Prop) → Prop := Spec E yX0_set cX0_set 5 none rmX0_set
theorem mX0_set : Mt yX0_set cX0_set 5 none 2 := ⟨k423, k8, by decide +kernel⟩
theorem vX0_set : MtV yX0_set 0 := ⟨k421, k422, by decide, (RX0, TX0, 2), rfl, rfl⟩
def PX0_set_0 (E : EV) (post : Option AV → AH → Prop) (h : AH) (l0 : Option Nat) (l1 : Int64) (l3 : Int64) : Prop :=
  wr h l0 0 0 (aJ l1) fun h1 => wr h1 l0 0 1 (aJ l3) fun h2 => post none h2
theorem bX0_set_0 {E : EV} {X : AX} {post : Option AV → AH → Prop} (C : Cb E X cX0_set RX0 5 rmX0_set) (D : Cr E X none rmX0_set "set" post) {h : AH} {l0 : Option Nat} {l1 : Int64} {l3 : Int64} (w : PX0_set_0 E post h l0 l1 l3) : Go E X 5 0 0 0 [(0, aP l0), (1, aJ l1), (3, aJ l3)] [] h := by
  unfold PX0_set_0 at w
  refine r_aload_n C dX0_set_0 rfl 0 rfl ?_
  refine r_lload_n C dX0_set_1 rfl 1 rfl ?_
  refine r_put C fcX0 (f := 0) (by decide) rfl rfl rfl rfl k174 dX0_set_2 (w.mono fun h1 w => ?_)
  refine r_aload_n C dX0_set_5 rfl 0 rfl ?_
  refine r_lload_n C dX0_set_6 rfl 2 rfl ?_
  refine r_put C fcX0 (f := 1) (by decide) rfl rfl rfl rfl k176 dX0_set_7 (w.mono fun h2 w => ?_)
  exact r_vret C D rfl (Nat.zero_le _) (Nat.zero_le _) dX0_set_10 w
theorem eX0_set {E : EV} {post : Option AV → AH → Prop} {h : AH} {l0 : Option Nat} {l1 : Int64} {l3 : Int64} (w : PX0_set_0 E post h l0 l1 l3) : sX0_set E [aP l0, aJ l1, aJ l3] h post := Spec.of RX0 rfl rfl (Nat.le_of_ble_eq_true rfl) fun X C D => bX0_set_0 C D w
theorem dX0_lowerTo_0 : decode cX0_lowerTo 0 = .ok (.lload_n 1, 1) := by decide +kernel
theorem dX0_lowerTo_1 : decode cX0_lowerTo 1 = .ok (.aload_n 0, 1) := by decide +kernel
theorem dX0_lowerTo_2 : decode cX0_lowerTo 2 = .ok (.getfield 15, 3) := by decide +kernel
theorem dX0_lowerTo_5 : decode cX0_lowerTo 5 = .ok (.lmul, 1) := by decide +kernel
theorem dX0_lowerTo_6 : decode cX0_lowerTo 6 = .ok (.aload_n 0, 1) := by decide +kernel
theorem dX0_lowerTo_7 : decode cX0_lowerTo 7 = .ok (.getfield 9, 3) := by decide +kernel
theorem dX0_lowerTo_10 : decode cX0_lowerTo 10 = .ok (.lload_n 3, 1) := by decide +kernel
theorem dX0_lowerTo_11 : decode cX0_lowerTo 11 = .ok (.lmul, 1) := by decide +kernel
theorem dX0_lowerTo_12 : decode cX0_lowerTo 12 = .ok (.lcmp, 1) := by decide +kernel
theorem dX0_lowerTo_13 : decode cX0_lowerTo 13 = .ok (.ifCond .ge 7, 3) := by decide +kernel
theorem dX0_lowerTo_16 : decode cX0_lowerTo 16 = .ok (.iconst 1, 1) := by decide +kernel
theorem dX0_lowerTo_17 : decode cX0_lowerTo 17 = .ok (.goto 4, 3) := by decide +kernel
theorem dX0_lowerTo_20 : decode cX0_lowerTo 20 = .ok (.iconst 0, 1) := by decide +kernel
theorem dX0_lowerTo_21 : decode cX0_lowerTo 21 = .ok (.istore 5, 2) := by decide +kernel
theorem dX0_lowerTo_23 : decode cX0_lowerTo 23 = .ok (.iload 5, 2) := by decide +kernel
theorem dX0_lowerTo_25 : decode cX0_lowerTo 25 = .ok (.ifCond .eq 9, 3) := by decide +kernel
theorem dX0_lowerTo_28 : decode cX0_lowerTo 28 = .ok (.aload_n 0, 1) := by decide +kernel
theorem dX0_lowerTo_29 : decode cX0_lowerTo 29 = .ok (.lload_n 1, 1) := by decide +kernel
theorem dX0_lowerTo_30 : decode cX0_lowerTo 30 = .ok (.lload_n 3, 1) := by decide +kernel
theorem dX0_lowerTo_31 : decode cX0_lowerTo 31 = .ok (.invokevirtual 18, 3) := by decide +kernel
theorem dX0_lowerTo_34 : decode cX0_lowerTo 34 = .ok (.iload 5, 2) := by decide +kernel
theorem dX0_lowerTo_36 : decode cX0_lowerTo 36 = .ok (.ireturn, 1) := by decide +kernel
abbrev rmX0_lowerTo : Room := { frames := 1, cells := 0, slots := 0, locals := 40 }
abbrev sX0_lowerTo (E : EV) : List AV → AH → (Option AV → AH → Prop) → Prop := Spec E yX0_lowerTo cX0_lowerTo 6 (some .boolean) rmX0_lowerTo
theorem mX0_lowerTo : Mt yX0_lowerTo cX0_lowerTo 6 (some .boolean) 2 := ⟨k490, k8, by decide +kernel⟩
theorem vX0_lowerTo : MtV yX0_lowerTo 0 := ⟨k488, k489, by decide, (RX0, TX0, 2), rfl, rfl⟩
def PX0_lowerTo_21 (E : EV) (post : Option AV → AH → Prop) (h : AH) (l0 : Option Nat) (l1 : Int64) (l3 : Int64) (s0 : Int32) : Prop :=
  (s0 = 0 → (s0 = 0 ∨ s0 = 1) ∧ post (some (aI s0)) h) ∧ (¬ s0 = 0 → CV (sX0_set E) l0 0 [aJ l1, aJ l3] h (kV fun h3 => (s0 = 0 ∨ s0 = 1) ∧ post (some (aI s0)) h3))
theorem bX0_lowerTo_21 {E : EV} {X : AX} {post : Option AV → AH → Prop} (C : Cb E X cX0_lowerTo RX0 6 rmX0_lowerTo) (D : Cr E X (some .boolean) rmX0_lowerTo "lowerTo" post) {h : AH} {l0 : Option Nat} {l1 : Int64} {l3 : Int64} {s0 : Int32} (w : PX0_lowerTo_21 E post h l0 l1 l3 s0) : Go E X 6 0 0 21 [(0, aP l0), (1, aJ l1), (3, aJ l3)] [aI s0] h := by
  unfold PX0_lowerTo_21 at w
  refine r_istore C dX0_lowerTo_21 (by decide) rfl ?_
  refine r_iload C dX0_lowerTo_23 0 rfl ?_
  refine r_if_eq C dX0_lowerTo_25 (tgt := 34) rfl (fun hc => ?_) (fun hc => ?_)
  · have w := w.1 hc
    refine r_iload C dX0_lowerTo_34 0 rfl ?_
    exact r_zret C D rfl w.1 (Nat.zero_le _) (Nat.zero_le _) dX0_lowerTo_36 w.2
  · have w := w.2 hc
    refine r_aload_n C dX0_lowerTo_28 rfl 1 rfl ?_
    refine r_lload_n C dX0_lowerTo_29 rfl 2 rfl ?_
    refine r_lload_n C dX0_lowerTo_30 rfl 3 rfl ?_
    refine r_cvV (rm' := rmX0_set) C mX0_set vX0_set k420 [aJ l1, aJ l3] [] rfl rfl (Nat.le_of_ble_eq_true rfl) (by decide) ⟨Nat.zero_le _, Nat.zero_le _⟩ 0 0 rfl rfl dX0_lowerTo_31 w (fun h3 w => ?_)
    refine r_iload C dX0_lowerTo_34 0 rfl ?_
    exact r_zret C D rfl w.1 (Nat.zero_le _) (Nat.zero_le _) dX0_lowerTo_36 w.2
def PX0_lowerTo_0 (E : EV) (post : Option AV → AH → Prop) (h : AH) (l0 : Option Nat) (l1 : Int64) (l3 : Int64) : Prop :=
  rdJ h l0 0 1 fun x1 => rdJ h l0 0 0 fun x2 => (0 ≤ (lg_cmp (l1 * x1) (x2 * l3)) → PX0_lowerTo_21 E post h l0 l1 l3 (0 : Int32)) ∧ (¬ 0 ≤ (lg_cmp (l1 * x1) (x2 * l3)) → PX0_lowerTo_21 E post h l0 l1 l3 (1 : Int32))
theorem bX0_lowerTo_0 {E : EV} {X : AX} {post : Option AV → AH → Prop} (C : Cb E X cX0_lowerTo RX0 6 rmX0_lowerTo) (D : Cr E X (some .boolean) rmX0_lowerTo "lowerTo" post) {h : AH} {l0 : Option Nat} {l1 : Int64} {l3 : Int64} (w : PX0_lowerTo_0 E post h l0 l1 l3) : Go E X 6 0 0 0 [(0, aP l0), (1, aJ l1), (3, aJ l3)] [] h := by
  unfold PX0_lowerTo_0 at w
  refine r_lload_n C dX0_lowerTo_0 rfl 1 rfl ?_
  refine r_aload_n C dX0_lowerTo_1 rfl 0 rfl ?_
  refine r_getJ C fcX0 (f := 1) (by decide) rfl k176 dX0_lowerTo_2 (w.mono fun x1 w => ?_)
  refine r_lmul C dX0_lowerTo_5 ?_
  refine r_aload_n C dX0_lowerTo_6 rfl 0 rfl ?_
  refine r_getJ C fcX0 (f := 0) (by decide) rfl k174 dX0_lowerTo_7 (w.mono fun x2 w => ?_)
  refine r_lload_n C dX0_lowerTo_10 rfl 2 rfl ?_
  refine r_lmul C dX0_lowerTo_11 ?_
  refine r_lcmp C dX0_lowerTo_12 ?_
  refine r_if_ge C dX0_lowerTo_13 (tgt := 20) rfl (fun hc => ?_) (fun hc => ?_)
  · have w := w.1 hc
    refine r_iconst (v := 0) C dX0_lowerTo_20 rfl ?_
    exact (bX0_lowerTo_21 C D w)
  · have w := w.2 hc
    refine r_iconst (v := 1) C dX0_lowerTo_16 rfl ?_
    refine r_goto C dX0_lowerTo_17 (tgt := 21) rfl ?_
    exact (bX0_lowerTo_21 C D w)
theorem eX0_lowerTo {E : EV} {post : Option AV → AH → Prop} {h : AH} {l0 : Option Nat} {l1 : Int64} {l3 : Int64} (w : PX0_lowerTo_0 E post h l0 l1 l3) : sX0_lowerTo E [aP l0, aJ l1, aJ l3] h post := Spec.of RX0 rfl rfl (Nat.le_of_ble_eq_true rfl) fun X C D => bX0_lowerTo_0 C D w
theorem dX0_part_0 : decode cX0_part 0 = .ok (.aload_n 0, 1) := by decide +kernel
theorem dX0_part_1 : decode cX0_part 1 = .ok (.invokevirtual 22, 3) := by decide +kernel
theorem dX0_part_4 : decode cX0_part 4 = .ok (.lstore_n 2, 1) := by decide +kernel
theorem dX0_part_5 : decode cX0_part 5 = .ok (.iload_n 1, 1) := by decide +kernel
theorem dX0_part_6 : decode cX0_part 6 = .ok (.ifCond .ne 10, 3) := by decide +kernel
theorem dX0_part_9 : decode cX0_part 9 = .ok (.aload_n 0, 1) := by decide +kernel
theorem dX0_part_10 : decode cX0_part 10 = .ok (.getfield 9, 3) := by decide +kernel
theorem dX0_part_13 : decode cX0_part 13 = .ok (.goto 7, 3) := by decide +kernel
theorem dX0_part_16 : decode cX0_part 16 = .ok (.aload_n 0, 1) := by decide +kernel
theorem dX0_part_17 : decode cX0_part 17 = .ok (.getfield 15, 3) := by decide +kernel
theorem dX0_part_20 : decode cX0_part 20 = .ok (.lstore 4, 2) := by decide +kernel
theorem dX0_part_22 : decode cX0_part 22 = .ok (.lload_n 2, 1) := by decide +kernel
theorem dX0_part_23 : decode cX0_part 23 = .ok (.lconst 0, 1) := by decide +kernel
theorem dX0_part_24 : decode cX0_part 24 = .ok (.lcmp, 1) := by decide +kernel
theorem dX0_part_25 : decode cX0_part 25 = .ok (.ifCond .ne 7, 3) := by decide +kernel
theorem dX0_part_28 : decode cX0_part 28 = .ok (.iconst 0, 1) := by decide +kernel
theorem dX0_part_29 : decode cX0_part 29 = .ok (.goto 8, 3) := by decide +kernel
theorem dX0_part_32 : decode cX0_part 32 = .ok (.lload 4, 2) := by decide +kernel
theorem dX0_part_34 : decode cX0_part 34 = .ok (.lload_n 2, 1) := by decide +kernel
theorem dX0_part_35 : decode cX0_part 35 = .ok (.ldiv, 1) := by decide +kernel
theorem dX0_part_36 : decode cX0_part 36 = .ok (.l2i, 1) := by decide +kernel
theorem dX0_part_37 : decode cX0_part 37 = .ok (.ireturn, 1) := by decide +kernel
abbrev rmX0_part : Room := { frames := 1, cells := 0, slots := 0, locals := 40 }
abbrev sX0_part (E : EV) : List AV → AH → (Option AV → AH → Prop) → Prop := Spec E yX0_part cX0_part 6 (some .int) rmX0_part
theorem mX0_part : Mt yX0_part cX0_part 6 (some .int) 1 := ⟨k494, k8, by decide +kernel⟩
theorem vX0_part : MtV yX0_part 0 := ⟨k492, k493, by decide, (RX0, TX0, 2), rfl, rfl⟩
def PX0_part_20 (E : EV) (post : Option AV → AH → Prop) (h : AH) (l2 : Int64) (s0 : Int64) : Prop :=
  (¬ (lg_cmp l2 (0 : Int64)) = 0 → ¬ l2 = 0 ∧ (post (some (aI ((s0 / l2).toInt32))) h)) ∧ ((lg_cmp l2 (0 : Int64)) = 0 → post (some (aI (0 : Int32))) h)
theorem bX0_part_20 {E : EV} {X : AX} {post : Option AV → AH → Prop} (C : Cb E X cX0_part RX0 6 rmX0_part) (D : Cr E X (some .int) rmX0_part "part" post) {h : AH} {l2 : Int64} {s0 : Int64} (w : PX0_part_20 E post h l2 s0) : Go E X 6 0 0 20 [(2, aJ l2)] [aJ s0] h := by
  unfold PX0_part_20 at w
  refine r_lstore C dX0_part_20 (by decide) rfl ?_
  refine r_lload_n C dX0_part_22 rfl 1 rfl ?_
  refine r_lconst (v := 0) C dX0_part_23 rfl ?_
  refine r_lcmp C dX0_part_24 ?_
  refine r_if_ne C dX0_part_25 (tgt := 32) rfl (fun hc => ?_) (fun hc => ?_)
  · have w := w.1 hc
    refine r_lload C dX0_part_32 0 rfl ?_
    refine r_lload_n C dX0_part_34 rfl 1 rfl ?_
    refine r_ldiv C dX0_part_35 w.1 ?_
    have w := w.2
    refine r_l2i C dX0_part_36 ?_
    exact r_iret C D rfl (Nat.zero_le _) (Nat.zero_le _) dX0_part_37 w
  · have w := w.2 hc
    refine r_iconst (v := 0) C dX0_part_28 rfl ?_
    refine r_goto C dX0_part_29 (tgt := 37) rfl ?_
    exact r_iret C D rfl (Nat.zero_le _) (Nat.zero_le _) dX0_part_37 w
def PX0_part_0 (E : EV) (post : Option AV → AH → Prop) (h : AH) (l0 : Option Nat) (l1 : Int32) : Prop :=
  CV (sX0_commonDivisor E) l0 0 [] h (kJ fun x1 h2 => (¬ l1 = 0 → rdJ h2 l0 0 1 fun x4 => PX0_part_20 E post h2 x1 x4) ∧ (l1 = 0 → rdJ h2 l0 0 0 fun x4 => PX0_part_20 E post h2 x1 x4))
theorem bX0_part_0 {E : EV} {X : AX} {post : Option AV → AH → Prop} (C : Cb E X cX0_part RX0 6 rmX0_part) (D : Cr E X (some .int) rmX0_part "part" post) {h : AH} {l0 : Option Nat} {l1 : Int32} (w : PX0_part_0 E post h l0 l1) : Go E X 6 0 0 0 [(0, aP l0), (1, aI l1)] [] h := by
  unfold PX0_part_0 at w
  refine r_aload_n C dX0_part_0 rfl 0 rfl ?_
  refine r_cvJ (rm' := rmX0_commonDivisor) C mX0_commonDivisor vX0_commonDivisor k495 [] [] rfl rfl (Nat.le_of_ble_eq_true rfl) (by decide) ⟨Nat.zero_le _, Nat.zero_le _⟩ 0 0 rfl rfl dX0_part_1 w (fun x1 h2 w => ?_)
  refine r_lstore_n C dX0_part_4 rfl (by decide) rfl ?_
  refine r_iload_n C dX0_part_5 rfl 2 rfl ?_
  refine r_if_ne C dX0_part_6 (tgt := 16) rfl (fun hc => ?_) (fun hc => ?_)
  · have w := w.1 hc
    refine r_aload_n C dX0_part_16 rfl 1 rfl ?_
    refine r_getJ C fcX0 (f := 1) (by decide) rfl k176 dX0_part_17 (w.mono fun x4 w => ?_)
    exact r_sub [0] rfl (bX0_part_20 C D w)
  · have w := w.2 hc
    refine r_aload_n C dX0_part_9 rfl 1 rfl ?_
    refine r_getJ C fcX0 (f := 0) (by decide) rfl k174 dX0_part_10 (w.mono fun x4 w => ?_)
    refine r_goto C dX0_part_13 (tgt := 20) rfl ?_
    exact r_sub [0] rfl (bX0_part_20 C D w)
theorem eX0_part {E : EV} {post : Option AV → AH → Prop} {h : AH} {l0 : Option Nat} {l1 : Int32} (w : PX0_part_0 E post h l0 l1) : sX0_part E [aP l0, aI l1] h post := Spec.of RX0 rfl rfl (Nat.le_of_ble_eq_true rfl) fun X C D => bX0_part_0 C D w
theorem dX0_setInfinite_0 : decode cX0_setInfinite 0 = .ok (.aload_n 0, 1) := by decide +kernel
theorem dX0_setInfinite_1 : decode cX0_setInfinite 1 = .ok (.lconst 1, 1) := by decide +kernel
theorem dX0_setInfinite_2 : decode cX0_setInfinite 2 = .ok (.lconst 0, 1) := by decide +kernel
theorem dX0_setInfinite_3 : decode cX0_setInfinite 3 = .ok (.invokevirtual 18, 3) := by decide +kernel
theorem dX0_setInfinite_6 : decode cX0_setInfinite 6 = .ok (.return_, 1) := by decide +kernel
abbrev rmX0_setInfinite : Room := { frames := 1, cells := 0, slots := 0, locals := 40 }
abbrev sX0_setInfinite (E : EV) : List AV → AH → (Option AV → AH → Prop) → Prop := Spec E yX0_setInfinite cX0_setInfinite 1 none rmX0_setInfinite
theorem mX0_setInfinite : Mt yX0_setInfinite cX0_setInfinite 1 none 0 := ⟨k419, k8, by decide +kernel⟩
theorem vX0_setInfinite : MtV yX0_setInfinite 0 := ⟨k417, k418, by decide, (RX0, TX0, 2), rfl, rfl⟩
def PX0_setInfinite_0 (E : EV) (post : Option AV → AH → Prop) (h : AH) (l0 : Option Nat) : Prop :=
  CV (sX0_set E) l0 0 [aJ (1 : Int64), aJ (0 : Int64)] h (kV fun h2 => post none h2)
theorem bX0_setInfinite_0 {E : EV} {X : AX} {post : Option AV → AH → Prop} (C : Cb E X cX0_setInfinite RX0 1 rmX0_setInfinite) (D : Cr E X none rmX0_setInfinite "setInfinite" post) {h : AH} {l0 : Option Nat} (w : PX0_setInfinite_0 E post h l0) : Go E X 1 0 0 0 [(0, aP l0)] [] h := by
  unfold PX0_setInfinite_0 at w
  refine r_aload_n C dX0_setInfinite_0 rfl 0 rfl ?_
  refine r_lconst (v := 1) C dX0_setInfinite_1 rfl ?_
  refine r_lconst (v := 0) C dX0_setInfinite_2 rfl ?_
  refine r_cvV (rm' := rmX0_set) C mX0_set vX0_set k420 [aJ (1 : Int64), aJ (0 : Int64)] [] rfl rfl (Nat.le_of_ble_eq_true rfl) (by decide) ⟨Nat.zero_le _, Nat.zero_le _⟩ 0 0 rfl rfl dX0_setInfinite_3 w (fun h2 w => ?_)
  exact r_vret C D rfl (Nat.zero_le _) (Nat.zero_le _) dX0_setInfinite_6 w
theorem eX0_setInfinite {E : EV} {post : Option AV → AH → Prop} {h : AH} {l0 : Option Nat} (w : PX0_setInfinite_0 E post h l0) : sX0_setInfinite E [aP l0] h post := Spec.of RX0 rfl rfl (Nat.le_of_ble_eq_true rfl) fun X C D => bX0_setInfinite_0 C D w
theorem dX1_saved_0 : decode cX1_saved 0 = .ok (.iload_n 1, 1) := by decide +kernel
theorem dX1_saved_1 : decode cX1_saved 1 = .ok (.ifCond .lt 21, 3) := by decide +kernel
theorem dX1_saved_4 : decode cX1_saved 4 = .ok (.iload_n 1, 1) := by decide +kernel
theorem dX1_saved_5 : decode cX1_saved 5 = .ok (.aload_n 0, 1) := by decide +kernel
theorem dX1_saved_6 : decode cX1_saved 6 = .ok (.getfield 11, 3) := by decide +kernel
theorem dX1_saved_9 : decode cX1_saved 9 = .ok (.arraylength, 1) := by decide +kernel
theorem dX1_saved_10 : decode cX1_saved 10 = .ok (.if_icmp .ge 12, 3) := by decide +kernel
theorem dX1_saved_13 : decode cX1_saved 13 = .ok (.aload_n 0, 1) := by decide +kernel
theorem dX1_saved_14 : decode cX1_saved 14 = .ok (.getfield 11, 3) := by decide +kernel
theorem dX1_saved_17 : decode cX1_saved 17 = .ok (.iload_n 1, 1) := by decide +kernel
theorem dX1_saved_18 : decode cX1_saved 18 = .ok (.aaload, 1) := by decide +kernel
theorem dX1_saved_19 : decode cX1_saved 19 = .ok (.goto 4, 3) := by decide +kernel
theorem dX1_saved_22 : decode cX1_saved 22 = .ok (.aconst_null, 1) := by decide +kernel
theorem dX1_saved_23 : decode cX1_saved 23 = .ok (.areturn, 1) := by decide +kernel
abbrev rmX1_saved : Room := { frames := 0, cells := 0, slots := 0, locals := 0 }
abbrev sX1_saved (E : EV) : List AV → AH → (Option AV → AH → Prop) → Prop := Spec E yX1_saved cX1_saved 2 (some (.object "NestingPlanner$State")) rmX1_saved
theorem mX1_saved : Mt yX1_saved cX1_saved 2 (some (.object "NestingPlanner$State")) 1 := ⟨k361, k11, by decide +kernel⟩
theorem vX1_saved : MtV yX1_saved 1 := ⟨k360, kp1, by decide, (RX1, TX1, 2), rfl, rfl⟩
def PX1_saved_0 (E : EV) (post : Option AV → AH → Prop) (h : AH) (l0 : Option Nat) (l1 : Int32) : Prop :=
  (l1 < 0 → post (some (aP none)) h) ∧ (¬ l1 < 0 → rdP h l0 1 0 fun x1 => alenP h x1 14 fun x2 => (x2 ≤ l1 → post (some (aP none)) h) ∧ (¬ x2 ≤ l1 → rdP h l0 1 0 fun x3 => aldP h x3 14 l1 fun x4 => post (some (aP x4)) h))
theorem bX1_saved_0 {E : EV} {X : AX} {post : Option AV → AH → Prop} (C : Cb E X cX1_saved RX1 2 rmX1_saved) (D : Cr E X (some (.object "NestingPlanner$State")) rmX1_saved "saved" post) {h : AH} {l0 : Option Nat} {l1 : Int32} (w : PX1_saved_0 E post h l0 l1) : Go E X 2 0 0 0 [(0, aP l0), (1, aI l1)] [] h := by
  unfold PX1_saved_0 at w
  refine r_iload_n C dX1_saved_0 rfl 1 rfl ?_
  refine r_if_lt C dX1_saved_1 (tgt := 22) rfl (fun hc => ?_) (fun hc => ?_)
  · have w := w.1 hc
    refine r_null C dX1_saved_22 ?_
    exact r_aret C D rfl (Nat.zero_le _) (Nat.zero_le _) dX1_saved_23 w
  · have w := w.2 hc
    refine r_iload_n C dX1_saved_4 rfl 1 rfl ?_
    refine r_aload_n C dX1_saved_5 rfl 0 rfl ?_
    refine r_getP C fcX1 (f := 0) (by decide) rfl k296 dX1_saved_6 (w.mono fun x1 w => ?_)
    refine r_alenP 14 (by decide) 4 rfl C dX1_saved_9 (w.mono fun x2 w => ?_)
    refine r_icmp_ge C dX1_saved_10 (tgt := 22) rfl (fun hc => ?_) (fun hc => ?_)
    · have w := w.1 hc
      refine r_null C dX1_saved_22 ?_
      exact r_aret C D rfl (Nat.zero_le _) (Nat.zero_le _) dX1_saved_23 w
    · have w := w.2 hc
      refine r_aload_n C dX1_saved_13 rfl 0 rfl ?_
      refine r_getP C fcX1 (f := 0) (by decide) rfl k296 dX1_saved_14 (w.mono fun x3 w => ?_)
      refine r_iload_n C dX1_saved_17 rfl 1 rfl ?_
      refine r_aald 14 (by decide) 4 rfl C dX1_saved_18 (w.mono fun x4 w => ?_)
      refine r_goto C dX1_saved_19 (tgt := 23) rfl ?_
      exact r_aret C D rfl (Nat.zero_le _) (Nat.zero_le _) dX1_saved_23 w
theorem eX1_saved {E : EV} {post : Option AV → AH → Prop} {h : AH} {l0 : Option Nat} {l1 : Int32} (w : PX1_saved_0 E post h l0 l1) : sX1_saved E [aP l0, aI l1] h post := Spec.of RX1 rfl rfl (Nat.le_of_ble_eq_true rfl) fun X C D => bX1_saved_0 C D w
theorem dX1_discardOldest_0 : decode cX1_discardOldest 0 = .ok (.aload_n 0, 1) := by decide +kernel
theorem dX1_discardOldest_1 : decode cX1_discardOldest 1 = .ok (.iconst 0, 1) := by decide +kernel
theorem dX1_discardOldest_2 : decode cX1_discardOldest 2 = .ok (.invokevirtual 27, 3) := by decide +kernel
theorem dX1_discardOldest_5 : decode cX1_discardOldest 5 = .ok (.astore_n 1, 1) := by decide +kernel
theorem dX1_discardOldest_6 : decode cX1_discardOldest 6 = .ok (.iconst 0, 1) := by decide +kernel
theorem dX1_discardOldest_7 : decode cX1_discardOldest 7 = .ok (.istore_n 2, 1) := by decide +kernel
theorem dX1_discardOldest_8 : decode cX1_discardOldest 8 = .ok (.iload_n 2, 1) := by decide +kernel
theorem dX1_discardOldest_9 : decode cX1_discardOldest 9 = .ok (.aload_n 0, 1) := by decide +kernel
theorem dX1_discardOldest_10 : decode cX1_discardOldest 10 = .ok (.getfield 11, 3) := by decide +kernel
theorem dX1_discardOldest_13 : decode cX1_discardOldest 13 = .ok (.arraylength, 1) := by decide +kernel
theorem dX1_discardOldest_14 : decode cX1_discardOldest 14 = .ok (.iconst 1, 1) := by decide +kernel
theorem dX1_discardOldest_15 : decode cX1_discardOldest 15 = .ok (.isub, 1) := by decide +kernel
theorem dX1_discardOldest_16 : decode cX1_discardOldest 16 = .ok (.if_icmp .ge 23, 3) := by decide +kernel
theorem dX1_discardOldest_19 : decode cX1_discardOldest 19 = .ok (.aload_n 0, 1) := by decide +kernel
theorem dX1_discardOldest_20 : decode cX1_discardOldest 20 = .ok (.getfield 11, 3) := by decide +kernel
theorem dX1_discardOldest_23 : decode cX1_discardOldest 23 = .ok (.iload_n 2, 1) := by decide +kernel
theorem dX1_discardOldest_24 : decode cX1_discardOldest 24 = .ok (.aload_n 0, 1) := by decide +kernel
theorem dX1_discardOldest_25 : decode cX1_discardOldest 25 = .ok (.getfield 11, 3) := by decide +kernel
theorem dX1_discardOldest_28 : decode cX1_discardOldest 28 = .ok (.iload_n 2, 1) := by decide +kernel
theorem dX1_discardOldest_29 : decode cX1_discardOldest 29 = .ok (.iconst 1, 1) := by decide +kernel
theorem dX1_discardOldest_30 : decode cX1_discardOldest 30 = .ok (.iadd, 1) := by decide +kernel
theorem dX1_discardOldest_31 : decode cX1_discardOldest 31 = .ok (.aaload, 1) := by decide +kernel
theorem dX1_discardOldest_32 : decode cX1_discardOldest 32 = .ok (.aastore, 1) := by decide +kernel
theorem dX1_discardOldest_33 : decode cX1_discardOldest 33 = .ok (.iinc 2 1, 3) := by decide +kernel
theorem dX1_discardOldest_36 : decode cX1_discardOldest 36 = .ok (.goto (-28), 3) := by decide +kernel
theorem dX1_discardOldest_39 : decode cX1_discardOldest 39 = .ok (.aload_n 0, 1) := by decide +kernel
theorem dX1_discardOldest_40 : decode cX1_discardOldest 40 = .ok (.getfield 11, 3) := by decide +kernel
theorem dX1_discardOldest_43 : decode cX1_discardOldest 43 = .ok (.arraylength, 1) := by decide +kernel
theorem dX1_discardOldest_44 : decode cX1_discardOldest 44 = .ok (.ifCond .le 16, 3) := by decide +kernel
theorem dX1_discardOldest_47 : decode cX1_discardOldest 47 = .ok (.aload_n 0, 1) := by decide +kernel
theorem dX1_discardOldest_48 : decode cX1_discardOldest 48 = .ok (.getfield 11, 3) := by decide +kernel
theorem dX1_discardOldest_51 : decode cX1_discardOldest 51 = .ok (.aload_n 0, 1) := by decide +kernel
theorem dX1_discardOldest_52 : decode cX1_discardOldest 52 = .ok (.getfield 11, 3) := by decide +kernel
theorem dX1_discardOldest_55 : decode cX1_discardOldest 55 = .ok (.arraylength, 1) := by decide +kernel
theorem dX1_discardOldest_56 : decode cX1_discardOldest 56 = .ok (.iconst 1, 1) := by decide +kernel
theorem dX1_discardOldest_57 : decode cX1_discardOldest 57 = .ok (.isub, 1) := by decide +kernel
theorem dX1_discardOldest_58 : decode cX1_discardOldest 58 = .ok (.aload_n 1, 1) := by decide +kernel
theorem dX1_discardOldest_59 : decode cX1_discardOldest 59 = .ok (.aastore, 1) := by decide +kernel
theorem dX1_discardOldest_60 : decode cX1_discardOldest 60 = .ok (.aload_n 0, 1) := by decide +kernel
theorem dX1_discardOldest_61 : decode cX1_discardOldest 61 = .ok (.dup, 1) := by decide +kernel
theorem dX1_discardOldest_62 : decode cX1_discardOldest 62 = .ok (.getfield 20, 3) := by decide +kernel
theorem dX1_discardOldest_65 : decode cX1_discardOldest 65 = .ok (.iconst 1, 1) := by decide +kernel
theorem dX1_discardOldest_66 : decode cX1_discardOldest 66 = .ok (.isub, 1) := by decide +kernel
theorem dX1_discardOldest_67 : decode cX1_discardOldest 67 = .ok (.putfield 20, 3) := by decide +kernel
theorem dX1_discardOldest_70 : decode cX1_discardOldest 70 = .ok (.return_, 1) := by decide +kernel
abbrev rmX1_discardOldest : Room := { frames := 1, cells := 0, slots := 0, locals := 40 }
abbrev sX1_discardOldest (E : EV) : List AV → AH → (Option AV → AH → Prop) → Prop := Spec E yX1_discardOldest cX1_discardOldest 3 none rmX1_discardOldest
theorem mX1_discardOldest : Mt yX1_discardOldest cX1_discardOldest 3 none 0 := ⟨k357, k11, by decide +kernel⟩
theorem vX1_discardOldest : MtV yX1_discardOldest 1 := ⟨k356, kp0, by decide, (RX1, TX1, 2), rfl, rfl⟩
def PX1_discardOldest_60 (E : EV) (post : Option AV → AH → Prop) (h : AH) (l0 : Option Nat) : Prop :=
  rdI h l0 1 1 fun x1 => wr h l0 1 1 (aI (x1 - (1 : Int32))) fun h2 => post none h2
theorem bX1_discardOldest_60 {E : EV} {X : AX} {post : Option AV → AH → Prop} (C : Cb E X cX1_discardOldest RX1 3 rmX1_discardOldest) (D : Cr E X none rmX1_discardOldest "discardOldest" post) {h : AH} {l0 : Option Nat} (w : PX1_discardOldest_60 E post h l0) : Go E X 3 0 0 60 [(0, aP l0)] [] h := by
  unfold PX1_discardOldest_60 at w
  refine r_aload_n C dX1_discardOldest_60 rfl 0 rfl ?_
  refine r_dup C dX1_discardOldest_61 rfl ?_
  refine r_getI C fcX1 (f := 1) (by decide) rfl k297 dX1_discardOldest_62 (w.mono fun x1 w => ?_)
  refine r_iconst (v := 1) C dX1_discardOldest_65 rfl ?_
  refine r_isub C dX1_discardOldest_66 ?_
  refine r_put C fcX1 (f := 1) (by decide) rfl rfl rfl rfl k297 dX1_discardOldest_67 (w.mono fun h2 w => ?_)
  exact r_vret C D rfl (Nat.zero_le _) (Nat.zero_le _) dX1_discardOldest_70 w
def PX1_discardOldest_8 (E : EV) (post : Option AV → AH → Prop) (J8 : AH → Option Nat → Option Nat → Int32 → Prop) (h : AH) (l0 : Option Nat) (l1 : Option Nat) (l2 : Int32) : Prop :=
  rdP h l0 1 0 fun x1 => alenP h x1 14 fun x2 => ((x2 - (1 : Int32)) ≤ l2 → rdP h l0 1 0 fun x3 => alenP h x3 14 fun x4 => (x4 ≤ 0 → PX1_discardOldest_60 E post h l0) ∧ (¬ x4 ≤ 0 → rdP h l0 1 0 fun x5 => rdP h l0 1 0 fun x6 => alenP h x6 14 fun x7 => astP h x5 14 8 (x7 - (1 : Int32)) l1 fun h8 => PX1_discardOldest_60 E post h8 l0)) ∧ (¬ (x2 - (1 : Int32)) ≤ l2 → rdP h l0 1 0 fun x3 => rdP h l0 1 0 fun x4 => aldP h x4 14 (l2 + (1 : Int32)) fun x5 => astP h x3 14 8 l2 x5 fun h6 => J8 h6 l0 l1 (l2 + (1 : Int32)))
theorem bX1_discardOldest_8 {E : EV} {X : AX} {post : Option AV → AH → Prop} (C : Cb E X cX1_discardOldest RX1 3 rmX1_discardOldest) (D : Cr E X none rmX1_discardOldest "discardOldest" post) {J8 : AH → Option Nat → Option Nat → Int32 → Prop} (g8 : ∀ (h : AH) (l0 : Option Nat) (l1 : Option Nat) (l2 : Int32), J8 h l0 l1 l2 → Go E X 3 0 0 8 [(0, aP l0), (1, aP l1), (2, aI l2)] [] h) {h : AH} {l0 : Option Nat} {l1 : Option Nat} {l2 : Int32} (w : PX1_discardOldest_8 E post J8 h l0 l1 l2) : Go E X 3 0 0 8 [(0, aP l0), (1, aP l1), (2, aI l2)] [] h := by
  unfold PX1_discardOldest_8 at w
  refine r_iload_n C dX1_discardOldest_8 rfl 2 rfl ?_
  refine r_aload_n C dX1_discardOldest_9 rfl 0 rfl ?_
  refine r_getP C fcX1 (f := 0) (by decide) rfl k296 dX1_discardOldest_10 (w.mono fun x1 w => ?_)
  refine r_alenP 14 (by decide) 4 rfl C dX1_discardOldest_13 (w.mono fun x2 w => ?_)
  refine r_iconst (v := 1) C dX1_discardOldest_14 rfl ?_
  refine r_isub C dX1_discardOldest_15 ?_
  refine r_icmp_ge C dX1_discardOldest_16 (tgt := 39) rfl (fun hc => ?_) (fun hc => ?_)
  · have w := w.1 hc
    refine r_aload_n C dX1_discardOldest_39 rfl 0 rfl ?_
    refine r_getP C fcX1 (f := 0) (by decide) rfl k296 dX1_discardOldest_40 (w.mono fun x3 w => ?_)
    refine r_alenP 14 (by decide) 4 rfl C dX1_discardOldest_43 (w.mono fun x4 w => ?_)
    refine r_if_le C dX1_discardOldest_44 (tgt := 60) rfl (fun hc => ?_) (fun hc => ?_)
    · have w := w.1 hc
      exact r_sub [0] rfl (bX1_discardOldest_60 C D w)
    · have w := w.2 hc
      refine r_aload_n C dX1_discardOldest_47 rfl 0 rfl ?_
      refine r_getP C fcX1 (f := 0) (by decide) rfl k296 dX1_discardOldest_48 (w.mono fun x5 w => ?_)
      refine r_aload_n C dX1_discardOldest_51 rfl 0 rfl ?_
      refine r_getP C fcX1 (f := 0) (by decide) rfl k296 dX1_discardOldest_52 (w.mono fun x6 w => ?_)
      refine r_alenP 14 (by decide) 4 rfl C dX1_discardOldest_55 (w.mono fun x7 w => ?_)
      refine r_iconst (v := 1) C dX1_discardOldest_56 rfl ?_
      refine r_isub C dX1_discardOldest_57 ?_
      refine r_aload_n C dX1_discardOldest_58 rfl 1 rfl ?_
      refine r_aast 14 8 (by decide) (by decide) 4 (r := (RX8, TX8, 9)) rfl rfl C dX1_discardOldest_59 (w.mono fun h8 w => ?_)
      exact r_sub [0] rfl (bX1_discardOldest_60 C D w)
  · have w := w.2 hc
    refine r_aload_n C dX1_discardOldest_19 rfl 0 rfl ?_
    refine r_getP C fcX1 (f := 0) (by decide) rfl k296 dX1_discardOldest_20 (w.mono fun x3 w => ?_)
    refine r_iload_n C dX1_discardOldest_23 rfl 2 rfl ?_
    refine r_aload_n C dX1_discardOldest_24 rfl 0 rfl ?_
    refine r_getP C fcX1 (f := 0) (by decide) rfl k296 dX1_discardOldest_25 (w.mono fun x4 w => ?_)
    refine r_iload_n C dX1_discardOldest_28 rfl 2 rfl ?_
    refine r_iconst (v := 1) C dX1_discardOldest_29 rfl ?_
    refine r_iadd C dX1_discardOldest_30 ?_
    refine r_aald 14 (by decide) 4 rfl C dX1_discardOldest_31 (w.mono fun x5 w => ?_)
    refine r_aast 14 8 (by decide) (by decide) 4 (r := (RX8, TX8, 9)) rfl rfl C dX1_discardOldest_32 (w.mono fun h6 w => ?_)
    refine r_iinc C dX1_discardOldest_33 2 rfl (v := 1) rfl (by decide) rfl ?_
    refine r_goto C dX1_discardOldest_36 (tgt := 8) rfl ?_
    exact r_sub [1, 2, 0] rfl (g8 h6 l0 l1 (l2 + (1 : Int32)) w)
theorem lpX1_discardOldest_8 {E : EV} {X : AX} {post : Option AV → AH → Prop} (C : Cb E X cX1_discardOldest RX1 3 rmX1_discardOldest) (D : Cr E X none rmX1_discardOldest "discardOldest" post) (I : Nat → AH → Option Nat → Option Nat → Int32 → Prop) (step : ∀ (z : Nat) (h : AH) (l0 : Option Nat) (l1 : Option Nat) (l2 : Int32), I z h l0 l1 l2 → PX1_discardOldest_8 E post (fun h l0 l1 l2 => ∃ z', z' < z ∧ I z' h l0 l1 l2) h l0 l1 l2) : ∀ (z : Nat) (h : AH) (l0 : Option Nat) (l1 : Option Nat) (l2 : Int32), I z h l0 l1 l2 → Go E X 3 0 0 8 [(0, aP l0), (1, aP l1), (2, aI l2)] [] h := by
  intro z
  induction z using Nat.strongRecOn with
  | _ z ih =>
    intro h l0 l1 l2 hI
    exact bX1_discardOldest_8 C D (fun h l0 l1 l2 hJ => by obtain ⟨z', hz, hi⟩ := hJ; exact ih z' hz h l0 l1 l2 hi) (step z h l0 l1 l2 hI)
def PX1_discardOldest_0 (E : EV) (post : Option AV → AH → Prop) (J8 : AH → Option Nat → Option Nat → Int32 → Prop) (h : AH) (l0 : Option Nat) : Prop :=
  CV (sX1_saved E) l0 1 [aI (0 : Int32)] h (kP fun x1 h2 => J8 h2 l0 x1 (0 : Int32))
theorem bX1_discardOldest_0 {E : EV} {X : AX} {post : Option AV → AH → Prop} (C : Cb E X cX1_discardOldest RX1 3 rmX1_discardOldest) (D : Cr E X none rmX1_discardOldest "discardOldest" post) {J8 : AH → Option Nat → Option Nat → Int32 → Prop} (g8 : ∀ (h : AH) (l0 : Option Nat) (l1 : Option Nat) (l2 : Int32), J8 h l0 l1 l2 → Go E X 3 0 0 8 [(0, aP l0), (1, aP l1), (2, aI l2)] [] h) {h : AH} {l0 : Option Nat} (w : PX1_discardOldest_0 E post J8 h l0) : Go E X 3 0 0 0 [(0, aP l0)] [] h := by
  unfold PX1_discardOldest_0 at w
  refine r_aload_n C dX1_discardOldest_0 rfl 0 rfl ?_
  refine r_iconst (v := 0) C dX1_discardOldest_1 rfl ?_
  refine r_cvP (rm' := rmX1_saved) C mX1_saved vX1_saved k358 [aI (0 : Int32)] [] rfl rfl (Nat.le_of_ble_eq_true rfl) (by decide) ⟨Nat.zero_le _, Nat.zero_le _⟩ 0 0 rfl rfl dX1_discardOldest_2 w (fun x1 h2 w => ?_)
  refine r_astore_n C dX1_discardOldest_5 rfl (by decide) rfl ?_
  refine r_iconst (v := 0) C dX1_discardOldest_6 rfl ?_
  refine r_istore_n C dX1_discardOldest_7 rfl (by decide) rfl ?_
  exact r_sub [2, 1, 0] rfl (g8 h2 l0 x1 (0 : Int32) w)
theorem eX1_discardOldest {E : EV} {post : Option AV → AH → Prop} {h : AH} {l0 : Option Nat} {J8 : AH → Option Nat → Option Nat → Int32 → Prop} (g8 : ∀ X : AX, Cb E X cX1_discardOldest RX1 3 rmX1_discardOldest → Cr E X none rmX1_discardOldest "discardOldest" post → ∀ (h : AH) (l0 : Option Nat) (l1 : Option Nat) (l2 : Int32), J8 h l0 l1 l2 → Go E X 3 0 0 8 [(0, aP l0), (1, aP l1), (2, aI l2)] [] h) (w : PX1_discardOldest_0 E post J8 h l0) : sX1_discardOldest E [aP l0] h post := Spec.of RX1 rfl rfl (Nat.le_of_ble_eq_true rfl) fun X C D => bX1_discardOldest_0 C D (g8 X C D) w
theorem dX8_init_0 : decode cX8_init 0 = .ok (.aload_n 0, 1) := by decide +kernel
theorem dX8_init_1 : decode cX8_init 1 = .ok (.invokespecial 3, 3) := by decide +kernel
theorem dX8_init_4 : decode cX8_init 4 = .ok (.aload_n 0, 1) := by decide +kernel
theorem dX8_init_5 : decode cX8_init 5 = .ok (.iconst 4, 1) := by decide +kernel
theorem dX8_init_6 : decode cX8_init 6 = .ok (.anewarray 9, 3) := by decide +kernel
theorem dX8_init_9 : decode cX8_init 9 = .ok (.putfield 11, 3) := by decide +kernel
theorem dX8_init_12 : decode cX8_init 12 = .ok (.aload_n 0, 1) := by decide +kernel
theorem dX8_init_13 : decode cX8_init 13 = .ok (.bipush 8, 2) := by decide +kernel
theorem dX8_init_15 : decode cX8_init 15 = .ok (.anewarray 9, 3) := by decide +kernel
theorem dX8_init_18 : decode cX8_init 18 = .ok (.putfield 17, 3) := by decide +kernel
theorem dX8_init_21 : decode cX8_init 21 = .ok (.aload_n 0, 1) := by decide +kernel
theorem dX8_init_22 : decode cX8_init 22 = .ok (.bipush 8, 2) := by decide +kernel
theorem dX8_init_24 : decode cX8_init 24 = .ok (.newarray .int, 2) := by decide +kernel
theorem dX8_init_26 : decode cX8_init 26 = .ok (.putfield 20, 3) := by decide +kernel
theorem dX8_init_29 : decode cX8_init 29 = .ok (.aload_n 0, 1) := by decide +kernel
theorem dX8_init_30 : decode cX8_init 30 = .ok (.bipush 8, 2) := by decide +kernel
theorem dX8_init_32 : decode cX8_init 32 = .ok (.newarray .int, 2) := by decide +kernel
theorem dX8_init_34 : decode cX8_init 34 = .ok (.putfield 24, 3) := by decide +kernel
theorem dX8_init_37 : decode cX8_init 37 = .ok (.aload_n 0, 1) := by decide +kernel
theorem dX8_init_38 : decode cX8_init 38 = .ok (.aload_n 1, 1) := by decide +kernel
theorem dX8_init_39 : decode cX8_init 39 = .ok (.putfield 27, 3) := by decide +kernel
theorem dX8_init_42 : decode cX8_init 42 = .ok (.aload_n 0, 1) := by decide +kernel
theorem dX8_init_43 : decode cX8_init 43 = .ok (.bipush 20, 2) := by decide +kernel
theorem dX8_init_45 : decode cX8_init 45 = .ok (.putfield 31, 3) := by decide +kernel
theorem dX8_init_48 : decode cX8_init 48 = .ok (.aload_n 0, 1) := by decide +kernel
theorem dX8_init_49 : decode cX8_init 49 = .ok (.bipush 20, 2) := by decide +kernel
theorem dX8_init_51 : decode cX8_init 51 = .ok (.putfield 35, 3) := by decide +kernel
theorem dX8_init_54 : decode cX8_init 54 = .ok (.iconst 0, 1) := by decide +kernel
theorem dX8_init_55 : decode cX8_init 55 = .ok (.istore_n 2, 1) := by decide +kernel
theorem dX8_init_56 : decode cX8_init 56 = .ok (.iload_n 2, 1) := by decide +kernel
theorem dX8_init_57 : decode cX8_init 57 = .ok (.aload_n 0, 1) := by decide +kernel
theorem dX8_init_58 : decode cX8_init 58 = .ok (.getfield 11, 3) := by decide +kernel
theorem dX8_init_61 : decode cX8_init 61 = .ok (.arraylength, 1) := by decide +kernel
theorem dX8_init_62 : decode cX8_init 62 = .ok (.if_icmp .ge 16, 3) := by decide +kernel
theorem dX8_init_65 : decode cX8_init 65 = .ok (.aload_n 0, 1) := by decide +kernel
theorem dX8_init_66 : decode cX8_init 66 = .ok (.getfield 11, 3) := by decide +kernel
theorem dX8_init_69 : decode cX8_init 69 = .ok (.iload_n 2, 1) := by decide +kernel
theorem dX8_init_70 : decode cX8_init 70 = .ok (.aload_n 1, 1) := by decide +kernel
theorem dX8_init_71 : decode cX8_init 71 = .ok (.aastore, 1) := by decide +kernel
theorem dX8_init_72 : decode cX8_init 72 = .ok (.iinc 2 1, 3) := by decide +kernel
theorem dX8_init_75 : decode cX8_init 75 = .ok (.goto (-19), 3) := by decide +kernel
theorem dX8_init_78 : decode cX8_init 78 = .ok (.iconst 0, 1) := by decide +kernel
theorem dX8_init_79 : decode cX8_init 79 = .ok (.istore_n 2, 1) := by decide +kernel
theorem dX8_init_80 : decode cX8_init 80 = .ok (.iload_n 2, 1) := by decide +kernel
theorem dX8_init_81 : decode cX8_init 81 = .ok (.aload_n 0, 1) := by decide +kernel
theorem dX8_init_82 : decode cX8_init 82 = .ok (.getfield 17, 3) := by decide +kernel
theorem dX8_init_85 : decode cX8_init 85 = .ok (.arraylength, 1) := by decide +kernel
theorem dX8_init_86 : decode cX8_init 86 = .ok (.if_icmp .ge 16, 3) := by decide +kernel
theorem dX8_init_89 : decode cX8_init 89 = .ok (.aload_n 0, 1) := by decide +kernel
theorem dX8_init_90 : decode cX8_init 90 = .ok (.getfield 17, 3) := by decide +kernel
theorem dX8_init_93 : decode cX8_init 93 = .ok (.iload_n 2, 1) := by decide +kernel
theorem dX8_init_94 : decode cX8_init 94 = .ok (.aload_n 1, 1) := by decide +kernel
theorem dX8_init_95 : decode cX8_init 95 = .ok (.aastore, 1) := by decide +kernel
theorem dX8_init_96 : decode cX8_init 96 = .ok (.iinc 2 1, 3) := by decide +kernel
theorem dX8_init_99 : decode cX8_init 99 = .ok (.goto (-19), 3) := by decide +kernel
theorem dX8_init_102 : decode cX8_init 102 = .ok (.return_, 1) := by decide +kernel
abbrev rmX8_init : Room := { frames := 1, cells := 4, slots := 28, locals := 40 }
abbrev sX8_init (E : EV) : List AV → AH → (Option AV → AH → Prop) → Prop := Spec E yX8_init cX8_init 3 none rmX8_init
theorem mX8_init : Mt yX8_init cX8_init 3 none 1 := ⟨k246, k10, by decide +kernel⟩
theorem vX8_init : MtI yX8_init := ⟨rfl, k245⟩
def PX8_init_80 (E : EV) (post : Option AV → AH → Prop) (J80 : Nat → Nat → AH → Nat → Option Nat → Int32 → Prop) (k n : Nat) (h : AH) (l0 : Nat) (l1 : Option Nat) (l2 : Int32) : Prop :=
  rdP h (some l0) 8 2 fun x1 => alenP h x1 13 fun x2 => (x2 ≤ l2 → (k ≤ 4 ∧ n ≤ 28) ∧ post none h) ∧ (¬ x2 ≤ l2 → rdP h (some l0) 8 2 fun x3 => astP h x3 13 6 l2 l1 fun h4 => J80 k n h4 l0 l1 (l2 + (1 : Int32)))
theorem bX8_init_80 {E : EV} {X : AX} {post : Option AV → AH → Prop} (C : Cb E X cX8_init RX8 3 rmX8_init) (D : Cr E X none rmX8_init "<init>" post) {J80 : Nat → Nat → AH → Nat → Option Nat → Int32 → Prop} (g80 : ∀ (k n : Nat) (h : AH) (l0 : Nat) (l1 : Option Nat) (l2 : Int32), J80 k n h l0 l1 l2 → Go E X 3 k n 80 [(0, aP (some l0)), (1, aP l1), (2, aI l2)] [] h) {k n : Nat} {h : AH} {l0 : Nat} {l1 : Option Nat} {l2 : Int32} (w : PX8_init_80 E post J80 k n h l0 l1 l2) : Go E X 3 k n 80 [(0, aP (some l0)), (1, aP l1), (2, aI l2)] [] h := by
  unfold PX8_init_80 at w
  refine r_iload_n C dX8_init_80 rfl 2 rfl ?_
  refine r_aload_n C dX8_init_81 rfl 0 rfl ?_
  refine r_getP C fcX8 (f := 2) (by decide) rfl k253 dX8_init_82 (w.mono fun x1 w => ?_)
  refine r_alenP 13 (by decide) 3 rfl C dX8_init_85 (w.mono fun x2 w => ?_)
  refine r_icmp_ge C dX8_init_86 (tgt := 102) rfl (fun hc => ?_) (fun hc => ?_)
  · have w := w.1 hc
    exact r_vret C D rfl w.1.1 w.1.2 dX8_init_102 w.2
  · have w := w.2 hc
    refine r_aload_n C dX8_init_89 rfl 0 rfl ?_
    refine r_getP C fcX8 (f := 2) (by decide) rfl k253 dX8_init_90 (w.mono fun x3 w => ?_)
    refine r_iload_n C dX8_init_93 rfl 2 rfl ?_
    refine r_aload_n C dX8_init_94 rfl 1 rfl ?_
    refine r_aast 13 6 (by decide) (by decide) 3 (r := (RX6, TX6, 9)) rfl rfl C dX8_init_95 (w.mono fun h4 w => ?_)
    refine r_iinc C dX8_init_96 2 rfl (v := 1) rfl (by decide) rfl ?_
    refine r_goto C dX8_init_99 (tgt := 80) rfl ?_
    exact r_sub [1, 2, 0] rfl (g80 k n h4 l0 l1 (l2 + (1 : Int32)) w)
theorem lpX8_init_80 {E : EV} {X : AX} {post : Option AV → AH → Prop} (C : Cb E X cX8_init RX8 3 rmX8_init) (D : Cr E X none rmX8_init "<init>" post) (I : Nat → Nat → Nat → AH → Nat → Option Nat → Int32 → Prop) (step : ∀ (z : Nat) (k n : Nat) (h : AH) (l0 : Nat) (l1 : Option Nat) (l2 : Int32), I z k n h l0 l1 l2 → PX8_init_80 E post (fun k n h l0 l1 l2 => ∃ z', z' < z ∧ I z' k n h l0 l1 l2) k n h l0 l1 l2) : ∀ (z : Nat) (k n : Nat) (h : AH) (l0 : Nat) (l1 : Option Nat) (l2 : Int32), I z k n h l0 l1 l2 → Go E X 3 k n 80 [(0, aP (some l0)), (1, aP l1), (2, aI l2)] [] h := by
  intro z
  induction z using Nat.strongRecOn with
  | _ z ih =>
    intro k n h l0 l1 l2 hI
    exact bX8_init_80 C D (fun k n h l0 l1 l2 hJ => by obtain ⟨z', hz, hi⟩ := hJ; exact ih z' hz k n h l0 l1 l2 hi) (step z k n h l0 l1 l2 hI)
def PX8_init_56 (E : EV) (post : Option AV → AH → Prop) (J56 : Nat → Nat → AH → Nat → Option Nat → Int32 → Prop) (J80 : Nat → Nat → AH → Nat → Option Nat → Int32 → Prop) (k n : Nat) (h : AH) (l0 : Nat) (l1 : Option Nat) (l2 : Int32) : Prop :=
  rdP h (some l0) 8 1 fun x1 => alenP h x1 13 fun x2 => (x2 ≤ l2 → J80 k n h l0 l1 (0 : Int32)) ∧ (¬ x2 ≤ l2 → rdP h (some l0) 8 1 fun x3 => astP h x3 13 6 l2 l1 fun h4 => J56 k n h4 l0 l1 (l2 + (1 : Int32)))
theorem bX8_init_56 {E : EV} {X : AX} {post : Option AV → AH → Prop} (C : Cb E X cX8_init RX8 3 rmX8_init) (D : Cr E X none rmX8_init "<init>" post) {J56 : Nat → Nat → AH → Nat → Option Nat → Int32 → Prop} (g56 : ∀ (k n : Nat) (h : AH) (l0 : Nat) (l1 : Option Nat) (l2 : Int32), J56 k n h l0 l1 l2 → Go E X 3 k n 56 [(0, aP (some l0)), (1, aP l1), (2, aI l2)] [] h) {J80 : Nat → Nat → AH → Nat → Option Nat → Int32 → Prop} (g80 : ∀ (k n : Nat) (h : AH) (l0 : Nat) (l1 : Option Nat) (l2 : Int32), J80 k n h l0 l1 l2 → Go E X 3 k n 80 [(0, aP (some l0)), (1, aP l1), (2, aI l2)] [] h) {k n : Nat} {h : AH} {l0 : Nat} {l1 : Option Nat} {l2 : Int32} (w : PX8_init_56 E post J56 J80 k n h l0 l1 l2) : Go E X 3 k n 56 [(0, aP (some l0)), (1, aP l1), (2, aI l2)] [] h := by
  unfold PX8_init_56 at w
  refine r_iload_n C dX8_init_56 rfl 2 rfl ?_
  refine r_aload_n C dX8_init_57 rfl 0 rfl ?_
  refine r_getP C fcX8 (f := 1) (by decide) rfl k252 dX8_init_58 (w.mono fun x1 w => ?_)
  refine r_alenP 13 (by decide) 3 rfl C dX8_init_61 (w.mono fun x2 w => ?_)
  refine r_icmp_ge C dX8_init_62 (tgt := 78) rfl (fun hc => ?_) (fun hc => ?_)
  · have w := w.1 hc
    refine r_iconst (v := 0) C dX8_init_78 rfl ?_
    refine r_istore_n C dX8_init_79 rfl (by decide) rfl ?_
    exact r_sub [1, 2, 0] rfl (g80 k n h l0 l1 (0 : Int32) w)
  · have w := w.2 hc
    refine r_aload_n C dX8_init_65 rfl 0 rfl ?_
    refine r_getP C fcX8 (f := 1) (by decide) rfl k252 dX8_init_66 (w.mono fun x3 w => ?_)
    refine r_iload_n C dX8_init_69 rfl 2 rfl ?_
    refine r_aload_n C dX8_init_70 rfl 1 rfl ?_
    refine r_aast 13 6 (by decide) (by decide) 3 (r := (RX6, TX6, 9)) rfl rfl C dX8_init_71 (w.mono fun h4 w => ?_)
    refine r_iinc C dX8_init_72 2 rfl (v := 1) rfl (by decide) rfl ?_
    refine r_goto C dX8_init_75 (tgt := 56) rfl ?_
    exact r_sub [1, 2, 0] rfl (g56 k n h4 l0 l1 (l2 + (1 : Int32)) w)
theorem lpX8_init_56 {E : EV} {X : AX} {post : Option AV → AH → Prop} (C : Cb E X cX8_init RX8 3 rmX8_init) (D : Cr E X none rmX8_init "<init>" post) {J80 : Nat → Nat → AH → Nat → Option Nat → Int32 → Prop} (g80 : ∀ (k n : Nat) (h : AH) (l0 : Nat) (l1 : Option Nat) (l2 : Int32), J80 k n h l0 l1 l2 → Go E X 3 k n 80 [(0, aP (some l0)), (1, aP l1), (2, aI l2)] [] h) (I : Nat → Nat → Nat → AH → Nat → Option Nat → Int32 → Prop) (step : ∀ (z : Nat) (k n : Nat) (h : AH) (l0 : Nat) (l1 : Option Nat) (l2 : Int32), I z k n h l0 l1 l2 → PX8_init_56 E post (fun k n h l0 l1 l2 => ∃ z', z' < z ∧ I z' k n h l0 l1 l2) J80 k n h l0 l1 l2) : ∀ (z : Nat) (k n : Nat) (h : AH) (l0 : Nat) (l1 : Option Nat) (l2 : Int32), I z k n h l0 l1 l2 → Go E X 3 k n 56 [(0, aP (some l0)), (1, aP l1), (2, aI l2)] [] h := by
  intro z
  induction z using Nat.strongRecOn with
  | _ z ih =>
    intro k n h l0 l1 l2 hI
    exact bX8_init_56 C D (fun k n h l0 l1 l2 hJ => by obtain ⟨z', hz, hi⟩ := hJ; exact ih z' hz k n h l0 l1 l2 hi) g80 (step z k n h l0 l1 l2 hI)
def PX8_init_0 (E : EV) (post : Option AV → AH → Prop) (J56 : Nat → Nat → AH → Nat → Option Nat → Int32 → Prop) (k n : Nat) (h : AH) (l0 : Nat) (l1 : Option Nat) : Prop :=
  (k + 1 ≤ 4 ∧ n + 4 ≤ 28) ∧ (∀ h1, h1 = h ++ [.inr (13, List.replicate 4 (aP none))] → wr h1 (some l0) 8 1 (aP (some h.length)) fun h2 => ((k + 1) + 1 ≤ 4 ∧ (n + 4) + 8 ≤ 28) ∧ (∀ h3, h3 = h2 ++ [.inr (13, List.replicate 8 (aP none))] → wr h3 (some l0) 8 2 (aP (some h2.length)) fun h4 => (((k + 1) + 1) + 1 ≤ 4 ∧ ((n + 4) + 8) + 8 ≤ 28) ∧ (∀ h5, h5 = h4 ++ [.inl (0, List.replicate 8 0)] → wr h5 (some l0) 8 3 (aP (some h4.length)) fun h6 => ((((k + 1) + 1) + 1) + 1 ≤ 4 ∧ (((n + 4) + 8) + 8) + 8 ≤ 28) ∧ (∀ h7, h7 = h6 ++ [.inl (0, List.replicate 8 0)] → wr h7 (some l0) 8 4 (aP (some h6.length)) fun h8 => wr h8 (some l0) 8 0 (aP l1) fun h9 => wr h9 (some l0) 8 6 (aI (20 : Int32)) fun h10 => wr h10 (some l0) 8 7 (aI (20 : Int32)) fun h11 => J56 ((((k + 1) + 1) + 1) + 1) ((((n + 4) + 8) + 8) + 8) h11 l0 l1 (0 : Int32)))))
theorem bX8_init_0 {E : EV} {X : AX} {post : Option AV → AH → Prop} (C : Cb E X cX8_init RX8 3 rmX8_init) (D : Cr E X none rmX8_init "<init>" post) {J56 : Nat → Nat → AH → Nat → Option Nat → Int32 → Prop} (g56 : ∀ (k n : Nat) (h : AH) (l0 : Nat) (l1 : Option Nat) (l2 : Int32), J56 k n h l0 l1 l2 → Go E X 3 k n 56 [(0, aP (some l0)), (1, aP l1), (2, aI l2)] [] h) {k n : Nat} {h : AH} {l0 : Nat} {l1 : Option Nat} (w : PX8_init_0 E post J56 k n h l0 l1) : Go E X 3 k n 0 [(0, aP (some l0)), (1, aP l1)] [] h := by
  unfold PX8_init_0 at w
  refine r_aload_n C dX8_init_0 rfl 0 rfl ?_
  refine r_objInit C k247 k19 k20 (by decide) (by decide) (Nat.le_of_ble_eq_true rfl) dX8_init_1 ?_
  refine r_aload_n C dX8_init_4 rfl 0 rfl ?_
  refine r_iconst (v := 4) C dX8_init_5 rfl ?_
  refine r_newaP 13 (by decide) 3 rfl (N' := 4) C (fun _ h => h.2.2.1) k248 (by decide) rfl (by decide) w.1.1 w.1.2 dX8_init_6 ?_
  have w := w.2 _ rfl
  generalize h ++ [.inr (13, List.replicate 4 (aP none))] = h1 at w ⊢
  refine r_putF C D fcX8 (f := 1) (by decide) rfl rfl rfl rfl (ft_A _ _) k252 dX8_init_9 (w.mono fun h2 w => ?_)
  refine r_aload_n C dX8_init_12 rfl 0 rfl ?_
  refine r_bipush (v := 8) C dX8_init_13 rfl ?_
  refine r_newaP 13 (by decide) 3 rfl (N' := 8) C (fun _ h => h.2.2.1) k248 (by decide) rfl (by decide) w.1.1 w.1.2 dX8_init_15 ?_
  have w := w.2 _ rfl
  generalize h2 ++ [.inr (13, List.replicate 8 (aP none))] = h3 at w ⊢
  refine r_putF C D fcX8 (f := 2) (by decide) rfl rfl rfl rfl (ft_A _ _) k253 dX8_init_18 (w.mono fun h4 w => ?_)
  refine r_aload_n C dX8_init_21 rfl 0 rfl ?_
  refine r_bipush (v := 8) C dX8_init_22 rfl ?_
  refine r_newaI 0 .int rfl 0 rfl ra_int rfl (N' := 8) C k66 (by decide) rfl (by decide) w.1.1 w.1.2 dX8_init_24 ?_
  have w := w.2 _ rfl
  generalize h4 ++ [.inl (0, List.replicate 8 0)] = h5 at w ⊢
  refine r_putF C D fcX8 (f := 3) (by decide) rfl rfl rfl rfl (ft_A _ _) k254 dX8_init_26 (w.mono fun h6 w => ?_)
  refine r_aload_n C dX8_init_29 rfl 0 rfl ?_
  refine r_bipush (v := 8) C dX8_init_30 rfl ?_
  refine r_newaI 0 .int rfl 0 rfl ra_int rfl (N' := 8) C k66 (by decide) rfl (by decide) w.1.1 w.1.2 dX8_init_32 ?_
  have w := w.2 _ rfl
  generalize h6 ++ [.inl (0, List.replicate 8 0)] = h7 at w ⊢
  refine r_putF C D fcX8 (f := 4) (by decide) rfl rfl rfl rfl (ft_A _ _) k255 dX8_init_34 (w.mono fun h8 w => ?_)
  refine r_aload_n C dX8_init_37 rfl 0 rfl ?_
  refine r_aload_n C dX8_init_38 rfl 1 rfl ?_
  refine r_putF C D fcX8 (f := 0) (by decide) rfl rfl rfl rfl (ft_P _ _) k250 dX8_init_39 (w.mono fun h9 w => ?_)
  refine r_aload_n C dX8_init_42 rfl 0 rfl ?_
  refine r_bipush (v := 20) C dX8_init_43 rfl ?_
  refine r_put C fcX8 (f := 6) (by decide) rfl rfl rfl rfl k259 dX8_init_45 (w.mono fun h10 w => ?_)
  refine r_aload_n C dX8_init_48 rfl 0 rfl ?_
  refine r_bipush (v := 20) C dX8_init_49 rfl ?_
  refine r_put C fcX8 (f := 7) (by decide) rfl rfl rfl rfl k262 dX8_init_51 (w.mono fun h11 w => ?_)
  refine r_iconst (v := 0) C dX8_init_54 rfl ?_
  refine r_istore_n C dX8_init_55 rfl (by decide) rfl ?_
  exact r_sub [1, 2, 0] rfl (g56 ((((k + 1) + 1) + 1) + 1) ((((n + 4) + 8) + 8) + 8) h11 l0 l1 (0 : Int32) w)
theorem eX8_init {E : EV} {post : Option AV → AH → Prop} {h : AH} {l0 : Nat} {l1 : Option Nat} {J56 : Nat → Nat → AH → Nat → Option Nat → Int32 → Prop} (g56 : ∀ X : AX, Cb E X cX8_init RX8 3 rmX8_init → Cr E X none rmX8_init "<init>" post → ∀ (k n : Nat) (h : AH) (l0 : Nat) (l1 : Option Nat) (l2 : Int32), J56 k n h l0 l1 l2 → Go E X 3 k n 56 [(0, aP (some l0)), (1, aP l1), (2, aI l2)] [] h) (w : PX8_init_0 E post J56 0 0 h l0 l1) : sX8_init E [aP (some l0), aP l1] h post := Spec.of RX8 rfl rfl (Nat.le_of_ble_eq_true rfl) fun X C D => bX8_init_0 C D (g56 X C D) w
theorem dX1_init_0 : decode cX1_init 0 = .ok (.aload_n 0, 1) := by decide +kernel
theorem dX1_init_1 : decode cX1_init 1 = .ok (.invokespecial 3, 3) := by decide +kernel
theorem dX1_init_4 : decode cX1_init 4 = .ok (.aload_n 0, 1) := by decide +kernel
theorem dX1_init_5 : decode cX1_init 5 = .ok (.bipush 6, 2) := by decide +kernel
theorem dX1_init_7 : decode cX1_init 7 = .ok (.anewarray 9, 3) := by decide +kernel
theorem dX1_init_10 : decode cX1_init 10 = .ok (.putfield 11, 3) := by decide +kernel
theorem dX1_init_13 : decode cX1_init 13 = .ok (.iconst 0, 1) := by decide +kernel
theorem dX1_init_14 : decode cX1_init 14 = .ok (.istore_n 2, 1) := by decide +kernel
theorem dX1_init_15 : decode cX1_init 15 = .ok (.iload_n 2, 1) := by decide +kernel
theorem dX1_init_16 : decode cX1_init 16 = .ok (.aload_n 0, 1) := by decide +kernel
theorem dX1_init_17 : decode cX1_init 17 = .ok (.getfield 11, 3) := by decide +kernel
theorem dX1_init_20 : decode cX1_init 20 = .ok (.arraylength, 1) := by decide +kernel
theorem dX1_init_21 : decode cX1_init 21 = .ok (.if_icmp .ge 23, 3) := by decide +kernel
theorem dX1_init_24 : decode cX1_init 24 = .ok (.aload_n 0, 1) := by decide +kernel
theorem dX1_init_25 : decode cX1_init 25 = .ok (.getfield 11, 3) := by decide +kernel
theorem dX1_init_28 : decode cX1_init 28 = .ok (.iload_n 2, 1) := by decide +kernel
theorem dX1_init_29 : decode cX1_init 29 = .ok (.new 9, 3) := by decide +kernel
theorem dX1_init_32 : decode cX1_init 32 = .ok (.dup, 1) := by decide +kernel
theorem dX1_init_33 : decode cX1_init 33 = .ok (.aload_n 1, 1) := by decide +kernel
theorem dX1_init_34 : decode cX1_init 34 = .ok (.invokespecial 17, 3) := by decide +kernel
theorem dX1_init_37 : decode cX1_init 37 = .ok (.aastore, 1) := by decide +kernel
theorem dX1_init_38 : decode cX1_init 38 = .ok (.iinc 2 1, 3) := by decide +kernel
theorem dX1_init_41 : decode cX1_init 41 = .ok (.goto (-26), 3) := by decide +kernel
theorem dX1_init_44 : decode cX1_init 44 = .ok (.return_, 1) := by decide +kernel
abbrev rmX1_init : Room := { frames := 2, cells := 31, slots := 228, locals := 80 }
abbrev sX1_init (E : EV) : List AV → AH → (Option AV → AH → Prop) → Prop := Spec E yX1_init cX1_init 3 none rmX1_init
theorem mX1_init : Mt yX1_init cX1_init 3 none 1 := ⟨k291, k11, by decide +kernel⟩
theorem vX1_init : MtI yX1_init := ⟨rfl, k290⟩
def PX1_init_15 (E : EV) (post : Option AV → AH → Prop) (J15 : Nat → Nat → AH → Nat → Option Nat → Int32 → Prop) (k n : Nat) (h : AH) (l0 : Nat) (l1 : Option Nat) (l2 : Int32) : Prop :=
  rdP h (some l0) 1 0 fun x1 => alenP h x1 14 fun x2 => (x2 ≤ l2 → (k ≤ 31 ∧ n ≤ 228) ∧ post none h) ∧ (¬ x2 ≤ l2 → rdP h (some l0) 1 0 fun x3 => (k + 1 ≤ 31 ∧ n + 9 ≤ 228) ∧ (∀ h4, h4 = h ++ [.inr (8, [aP none, aP none, aP none, aP none, aP none, aI 0, aI 0, aI 0, aI 0])] → ((k + 1) + 4 ≤ 31 ∧ (n + 9) + 28 ≤ 228) ∧ CS (sX8_init E) [aP (some h.length), aP l1] h4 (kV fun h6 => astP h6 x3 14 8 l2 (some h.length) fun h7 => J15 ((k + 1) + 4) ((n + 9) + 28) h7 l0 l1 (l2 + (1 : Int32)))))
theorem bX1_init_15 {E : EV} {X : AX} {post : Option AV → AH → Prop} (C : Cb E X cX1_init RX1 3 rmX1_init) (D : Cr E X none rmX1_init "<init>" post) {J15 : Nat → Nat → AH → Nat → Option Nat → Int32 → Prop} (g15 : ∀ (k n : Nat) (h : AH) (l0 : Nat) (l1 : Option Nat) (l2 : Int32), J15 k n h l0 l1 l2 → Go E X 3 k n 15 [(0, aP (some l0)), (1, aP l1), (2, aI l2)] [] h) {k n : Nat} {h : AH} {l0 : Nat} {l1 : Option Nat} {l2 : Int32} (w : PX1_init_15 E post J15 k n h l0 l1 l2) : Go E X 3 k n 15 [(0, aP (some l0)), (1, aP l1), (2, aI l2)] [] h := by
  unfold PX1_init_15 at w
  refine r_iload_n C dX1_init_15 rfl 2 rfl ?_
  refine r_aload_n C dX1_init_16 rfl 0 rfl ?_
  refine r_getP C fcX1 (f := 0) (by decide) rfl k296 dX1_init_17 (w.mono fun x1 w => ?_)
  refine r_alenP 14 (by decide) 4 rfl C dX1_init_20 (w.mono fun x2 w => ?_)
  refine r_icmp_ge C dX1_init_21 (tgt := 44) rfl (fun hc => ?_) (fun hc => ?_)
  · have w := w.1 hc
    exact r_vret C D rfl w.1.1 w.1.2 dX1_init_44 w.2
  · have w := w.2 hc
    refine r_aload_n C dX1_init_24 rfl 0 rfl ?_
    refine r_getP C fcX1 (f := 0) (by decide) rfl k296 dX1_init_25 (w.mono fun x3 w => ?_)
    refine r_iload_n C dX1_init_28 rfl 2 rfl ?_
    refine r_new (fs := [aP none, aP none, aP none, aP none, aP none, aI 0, aI 0, aI 0, aI 0]) C fcX8 rfl df_X8 k293 k243 k10 w.1.1 w.1.2 dX1_init_29 ?_
    have w := w.2 _ rfl
    generalize h ++ [.inr (8, [aP none, aP none, aP none, aP none, aP none, aI 0, aI 0, aI 0, aI 0])] = h4 at w ⊢
    refine r_dup C dX1_init_32 rfl ?_
    refine r_aload_n C dX1_init_33 rfl 1 rfl ?_
    refine r_ciV (rm' := rmX8_init) C mX8_init vX8_init (host := "") (Or.inl k295) [aP l1] [aP (some h.length), aI l2, aP x3] rfl rfl (Nat.le_of_ble_eq_true rfl) (by decide) w.1 ((k + 1) + 4) ((n + 9) + 28) rfl rfl dX1_init_34 rfl w.2 (fun h6 w => ?_)
    refine r_aast 14 8 (by decide) (by decide) 4 (r := (RX8, TX8, 9)) rfl rfl C dX1_init_37 (w.mono fun h7 w => ?_)
    refine r_iinc C dX1_init_38 2 rfl (v := 1) rfl (by decide) rfl ?_
    refine r_goto C dX1_init_41 (tgt := 15) rfl ?_
    exact r_sub [1, 2, 0] rfl (g15 ((k + 1) + 4) ((n + 9) + 28) h7 l0 l1 (l2 + (1 : Int32)) w)
theorem lpX1_init_15 {E : EV} {X : AX} {post : Option AV → AH → Prop} (C : Cb E X cX1_init RX1 3 rmX1_init) (D : Cr E X none rmX1_init "<init>" post) (I : Nat → Nat → Nat → AH → Nat → Option Nat → Int32 → Prop) (step : ∀ (z : Nat) (k n : Nat) (h : AH) (l0 : Nat) (l1 : Option Nat) (l2 : Int32), I z k n h l0 l1 l2 → PX1_init_15 E post (fun k n h l0 l1 l2 => ∃ z', z' < z ∧ I z' k n h l0 l1 l2) k n h l0 l1 l2) : ∀ (z : Nat) (k n : Nat) (h : AH) (l0 : Nat) (l1 : Option Nat) (l2 : Int32), I z k n h l0 l1 l2 → Go E X 3 k n 15 [(0, aP (some l0)), (1, aP l1), (2, aI l2)] [] h := by
  intro z
  induction z using Nat.strongRecOn with
  | _ z ih =>
    intro k n h l0 l1 l2 hI
    exact bX1_init_15 C D (fun k n h l0 l1 l2 hJ => by obtain ⟨z', hz, hi⟩ := hJ; exact ih z' hz k n h l0 l1 l2 hi) (step z k n h l0 l1 l2 hI)
def PX1_init_0 (E : EV) (post : Option AV → AH → Prop) (J15 : Nat → Nat → AH → Nat → Option Nat → Int32 → Prop) (k n : Nat) (h : AH) (l0 : Nat) (l1 : Option Nat) : Prop :=
  (k + 1 ≤ 31 ∧ n + 6 ≤ 228) ∧ (∀ h1, h1 = h ++ [.inr (14, List.replicate 6 (aP none))] → wr h1 (some l0) 1 0 (aP (some h.length)) fun h2 => J15 (k + 1) (n + 6) h2 l0 l1 (0 : Int32))
theorem bX1_init_0 {E : EV} {X : AX} {post : Option AV → AH → Prop} (C : Cb E X cX1_init RX1 3 rmX1_init) (D : Cr E X none rmX1_init "<init>" post) {J15 : Nat → Nat → AH → Nat → Option Nat → Int32 → Prop} (g15 : ∀ (k n : Nat) (h : AH) (l0 : Nat) (l1 : Option Nat) (l2 : Int32), J15 k n h l0 l1 l2 → Go E X 3 k n 15 [(0, aP (some l0)), (1, aP l1), (2, aI l2)] [] h) {k n : Nat} {h : AH} {l0 : Nat} {l1 : Option Nat} (w : PX1_init_0 E post J15 k n h l0 l1) : Go E X 3 k n 0 [(0, aP (some l0)), (1, aP l1)] [] h := by
  unfold PX1_init_0 at w
  refine r_aload_n C dX1_init_0 rfl 0 rfl ?_
  refine r_objInit C k292 k19 k20 (by decide) (by decide) (Nat.le_of_ble_eq_true rfl) dX1_init_1 ?_
  refine r_aload_n C dX1_init_4 rfl 0 rfl ?_
  refine r_bipush (v := 6) C dX1_init_5 rfl ?_
  refine r_newaP 14 (by decide) 4 rfl (N' := 6) C (fun _ h => h.2.2.2) k293 (by decide) rfl (by decide) w.1.1 w.1.2 dX1_init_7 ?_
  have w := w.2 _ rfl
  generalize h ++ [.inr (14, List.replicate 6 (aP none))] = h1 at w ⊢
  refine r_putF C D fcX1 (f := 0) (by decide) rfl rfl rfl rfl (ft_A _ _) k296 dX1_init_10 (w.mono fun h2 w => ?_)
  refine r_iconst (v := 0) C dX1_init_13 rfl ?_
  refine r_istore_n C dX1_init_14 rfl (by decide) rfl ?_
  exact r_sub [1, 2, 0] rfl (g15 (k + 1) (n + 6) h2 l0 l1 (0 : Int32) w)
theorem eX1_init {E : EV} {post : Option AV → AH → Prop} {h : AH} {l0 : Nat} {l1 : Option Nat} {J15 : Nat → Nat → AH → Nat → Option Nat → Int32 → Prop} (g15 : ∀ X : AX, Cb E X cX1_init RX1 3 rmX1_init → Cr E X none rmX1_init "<init>" post → ∀ (k n : Nat) (h : AH) (l0 : Nat) (l1 : Option Nat) (l2 : Int32), J15 k n h l0 l1 l2 → Go E X 3 k n 15 [(0, aP (some l0)), (1, aP l1), (2, aI l2)] [] h) (w : PX1_init_0 E post J15 0 0 h l0 l1) : sX1_init E [aP (some l0), aP l1] h post := Spec.of RX1 rfl rfl (Nat.le_of_ble_eq_true rfl) fun X C D => bX1_init_0 C D (g15 X C D) w
theorem dX8_slot_0 : decode cX8_slot 0 = .ok (.iload_n 1, 1) := by decide +kernel
theorem dX8_slot_1 : decode cX8_slot 1 = .ok (.ifCond .lt 21, 3) := by decide +kernel
theorem dX8_slot_4 : decode cX8_slot 4 = .ok (.iload_n 1, 1) := by decide +kernel
theorem dX8_slot_5 : decode cX8_slot 5 = .ok (.aload_n 0, 1) := by decide +kernel
theorem dX8_slot_6 : decode cX8_slot 6 = .ok (.getfield 11, 3) := by decide +kernel
theorem dX8_slot_9 : decode cX8_slot 9 = .ok (.arraylength, 1) := by decide +kernel
theorem dX8_slot_10 : decode cX8_slot 10 = .ok (.if_icmp .ge 12, 3) := by decide +kernel
theorem dX8_slot_13 : decode cX8_slot 13 = .ok (.aload_n 0, 1) := by decide +kernel
theorem dX8_slot_14 : decode cX8_slot 14 = .ok (.getfield 11, 3) := by decide +kernel
theorem dX8_slot_17 : decode cX8_slot 17 = .ok (.iload_n 1, 1) := by decide +kernel
theorem dX8_slot_18 : decode cX8_slot 18 = .ok (.aaload, 1) := by decide +kernel
theorem dX8_slot_19 : decode cX8_slot 19 = .ok (.goto 4, 3) := by decide +kernel
theorem dX8_slot_22 : decode cX8_slot 22 = .ok (.aconst_null, 1) := by decide +kernel
theorem dX8_slot_23 : decode cX8_slot 23 = .ok (.astore_n 2, 1) := by decide +kernel
theorem dX8_slot_24 : decode cX8_slot 24 = .ok (.aload_n 2, 1) := by decide +kernel
theorem dX8_slot_25 : decode cX8_slot 25 = .ok (.ifnonnull 10, 3) := by decide +kernel
theorem dX8_slot_28 : decode cX8_slot 28 = .ok (.aload_n 0, 1) := by decide +kernel
theorem dX8_slot_29 : decode cX8_slot 29 = .ok (.getfield 27, 3) := by decide +kernel
theorem dX8_slot_32 : decode cX8_slot 32 = .ok (.goto 4, 3) := by decide +kernel
theorem dX8_slot_35 : decode cX8_slot 35 = .ok (.aload_n 2, 1) := by decide +kernel
theorem dX8_slot_36 : decode cX8_slot 36 = .ok (.areturn, 1) := by decide +kernel
abbrev rmX8_slot : Room := { frames := 0, cells := 0, slots := 0, locals := 0 }
abbrev sX8_slot (E : EV) : List AV → AH → (Option AV → AH → Prop) → Prop := Spec E yX8_slot cX8_slot 3 (some (.object "NestingPlanner$Shape")) rmX8_slot
theorem mX8_slot : Mt yX8_slot cX8_slot 3 (some (.object "NestingPlanner$Shape")) 1 := ⟨k369, k10, by decide +kernel⟩
theorem vX8_slot : MtV yX8_slot 8 := ⟨k367, k368, by decide, (RX8, TX8, 9), rfl, rfl⟩
def PX8_slot_23 (E : EV) (post : Option AV → AH → Prop) (h : AH) (l0 : Option Nat) (s0 : Option Nat) : Prop :=
  (¬ s0 = none → post (some (aP s0)) h) ∧ (s0 = none → rdP h l0 8 0 fun x2 => post (some (aP x2)) h)
theorem bX8_slot_23 {E : EV} {X : AX} {post : Option AV → AH → Prop} (C : Cb E X cX8_slot RX8 3 rmX8_slot) (D : Cr E X (some (.object "NestingPlanner$Shape")) rmX8_slot "slot" post) {h : AH} {l0 : Option Nat} {s0 : Option Nat} (w : PX8_slot_23 E post h l0 s0) : Go E X 3 0 0 23 [(0, aP l0)] [aP s0] h := by
  unfold PX8_slot_23 at w
  refine r_astore_n C dX8_slot_23 rfl (by decide) rfl ?_
  refine r_aload_n C dX8_slot_24 rfl 0 rfl ?_
  refine r_ifnonnull C dX8_slot_25 (tgt := 35) rfl (fun hc => ?_) (fun hc => ?_)
  · have w := w.1 hc
    refine r_aload_n C dX8_slot_35 rfl 0 rfl ?_
    exact r_aret C D rfl (Nat.zero_le _) (Nat.zero_le _) dX8_slot_36 w
  · have w := w.2 hc
    refine r_aload_n C dX8_slot_28 rfl 1 rfl ?_
    refine r_getP C fcX8 (f := 0) (by decide) rfl k250 dX8_slot_29 (w.mono fun x2 w => ?_)
    refine r_goto C dX8_slot_32 (tgt := 36) rfl ?_
    exact r_aret C D rfl (Nat.zero_le _) (Nat.zero_le _) dX8_slot_36 w
def PX8_slot_22 (E : EV) (post : Option AV → AH → Prop) (h : AH) (l0 : Option Nat) : Prop :=
  PX8_slot_23 E post h l0 none
theorem bX8_slot_22 {E : EV} {X : AX} {post : Option AV → AH → Prop} (C : Cb E X cX8_slot RX8 3 rmX8_slot) (D : Cr E X (some (.object "NestingPlanner$Shape")) rmX8_slot "slot" post) {h : AH} {l0 : Option Nat} (w : PX8_slot_22 E post h l0) : Go E X 3 0 0 22 [(0, aP l0)] [] h := by
  unfold PX8_slot_22 at w
  refine r_null C dX8_slot_22 ?_
  exact (bX8_slot_23 C D w)
def PX8_slot_0 (E : EV) (post : Option AV → AH → Prop) (h : AH) (l0 : Option Nat) (l1 : Int32) : Prop :=
  (l1 < 0 → PX8_slot_22 E post h l0) ∧ (¬ l1 < 0 → rdP h l0 8 1 fun x1 => alenP h x1 13 fun x2 => (x2 ≤ l1 → PX8_slot_22 E post h l0) ∧ (¬ x2 ≤ l1 → rdP h l0 8 1 fun x3 => aldP h x3 13 l1 fun x4 => PX8_slot_23 E post h l0 x4))
theorem bX8_slot_0 {E : EV} {X : AX} {post : Option AV → AH → Prop} (C : Cb E X cX8_slot RX8 3 rmX8_slot) (D : Cr E X (some (.object "NestingPlanner$Shape")) rmX8_slot "slot" post) {h : AH} {l0 : Option Nat} {l1 : Int32} (w : PX8_slot_0 E post h l0 l1) : Go E X 3 0 0 0 [(0, aP l0), (1, aI l1)] [] h := by
  unfold PX8_slot_0 at w
  refine r_iload_n C dX8_slot_0 rfl 1 rfl ?_
  refine r_if_lt C dX8_slot_1 (tgt := 22) rfl (fun hc => ?_) (fun hc => ?_)
  · have w := w.1 hc
    exact r_sub [0] rfl (bX8_slot_22 C D w)
  · have w := w.2 hc
    refine r_iload_n C dX8_slot_4 rfl 1 rfl ?_
    refine r_aload_n C dX8_slot_5 rfl 0 rfl ?_
    refine r_getP C fcX8 (f := 1) (by decide) rfl k252 dX8_slot_6 (w.mono fun x1 w => ?_)
    refine r_alenP 13 (by decide) 3 rfl C dX8_slot_9 (w.mono fun x2 w => ?_)
    refine r_icmp_ge C dX8_slot_10 (tgt := 22) rfl (fun hc => ?_) (fun hc => ?_)
    · have w := w.1 hc
      exact r_sub [0] rfl (bX8_slot_22 C D w)
    · have w := w.2 hc
      refine r_aload_n C dX8_slot_13 rfl 0 rfl ?_
      refine r_getP C fcX8 (f := 1) (by decide) rfl k252 dX8_slot_14 (w.mono fun x3 w => ?_)
      refine r_iload_n C dX8_slot_17 rfl 1 rfl ?_
      refine r_aald 13 (by decide) 3 rfl C dX8_slot_18 (w.mono fun x4 w => ?_)
      refine r_goto C dX8_slot_19 (tgt := 23) rfl ?_
      exact r_sub [0] rfl (bX8_slot_23 C D w)
theorem eX8_slot {E : EV} {post : Option AV → AH → Prop} {h : AH} {l0 : Option Nat} {l1 : Int32} (w : PX8_slot_0 E post h l0 l1) : sX8_slot E [aP l0, aI l1] h post := Spec.of RX8 rfl rfl (Nat.le_of_ble_eq_true rfl) fun X C D => bX8_slot_0 C D w
theorem dX8_shape_0 : decode cX8_shape 0 = .ok (.iload_n 1, 1) := by decide +kernel
theorem dX8_shape_1 : decode cX8_shape 1 = .ok (.ifCond .lt 21, 3) := by decide +kernel
theorem dX8_shape_4 : decode cX8_shape 4 = .ok (.iload_n 1, 1) := by decide +kernel
theorem dX8_shape_5 : decode cX8_shape 5 = .ok (.aload_n 0, 1) := by decide +kernel
theorem dX8_shape_6 : decode cX8_shape 6 = .ok (.getfield 17, 3) := by decide +kernel
theorem dX8_shape_9 : decode cX8_shape 9 = .ok (.arraylength, 1) := by decide +kernel
theorem dX8_shape_10 : decode cX8_shape 10 = .ok (.if_icmp .ge 12, 3) := by decide +kernel
theorem dX8_shape_13 : decode cX8_shape 13 = .ok (.aload_n 0, 1) := by decide +kernel
theorem dX8_shape_14 : decode cX8_shape 14 = .ok (.getfield 17, 3) := by decide +kernel
theorem dX8_shape_17 : decode cX8_shape 17 = .ok (.iload_n 1, 1) := by decide +kernel
theorem dX8_shape_18 : decode cX8_shape 18 = .ok (.aaload, 1) := by decide +kernel
theorem dX8_shape_19 : decode cX8_shape 19 = .ok (.goto 4, 3) := by decide +kernel
theorem dX8_shape_22 : decode cX8_shape 22 = .ok (.aconst_null, 1) := by decide +kernel
theorem dX8_shape_23 : decode cX8_shape 23 = .ok (.astore_n 2, 1) := by decide +kernel
theorem dX8_shape_24 : decode cX8_shape 24 = .ok (.aload_n 2, 1) := by decide +kernel
theorem dX8_shape_25 : decode cX8_shape 25 = .ok (.ifnonnull 10, 3) := by decide +kernel
theorem dX8_shape_28 : decode cX8_shape 28 = .ok (.aload_n 0, 1) := by decide +kernel
theorem dX8_shape_29 : decode cX8_shape 29 = .ok (.getfield 27, 3) := by decide +kernel
theorem dX8_shape_32 : decode cX8_shape 32 = .ok (.goto 4, 3) := by decide +kernel
theorem dX8_shape_35 : decode cX8_shape 35 = .ok (.aload_n 2, 1) := by decide +kernel
theorem dX8_shape_36 : decode cX8_shape 36 = .ok (.areturn, 1) := by decide +kernel
abbrev rmX8_shape : Room := { frames := 0, cells := 0, slots := 0, locals := 0 }
abbrev sX8_shape (E : EV) : List AV → AH → (Option AV → AH → Prop) → Prop := Spec E yX8_shape cX8_shape 3 (some (.object "NestingPlanner$Shape")) rmX8_shape
theorem mX8_shape : Mt yX8_shape cX8_shape 3 (some (.object "NestingPlanner$Shape")) 1 := ⟨k373, k10, by decide +kernel⟩
theorem vX8_shape : MtV yX8_shape 8 := ⟨k371, k372, by decide, (RX8, TX8, 9), rfl, rfl⟩
def PX8_shape_23 (E : EV) (post : Option AV → AH → Prop) (h : AH) (l0 : Option Nat) (s0 : Option Nat) : Prop :=
  (¬ s0 = none → post (some (aP s0)) h) ∧ (s0 = none → rdP h l0 8 0 fun x2 => post (some (aP x2)) h)
theorem bX8_shape_23 {E : EV} {X : AX} {post : Option AV → AH → Prop} (C : Cb E X cX8_shape RX8 3 rmX8_shape) (D : Cr E X (some (.object "NestingPlanner$Shape")) rmX8_shape "shape" post) {h : AH} {l0 : Option Nat} {s0 : Option Nat} (w : PX8_shape_23 E post h l0 s0) : Go E X 3 0 0 23 [(0, aP l0)] [aP s0] h := by
  unfold PX8_shape_23 at w
  refine r_astore_n C dX8_shape_23 rfl (by decide) rfl ?_
  refine r_aload_n C dX8_shape_24 rfl 0 rfl ?_
  refine r_ifnonnull C dX8_shape_25 (tgt := 35) rfl (fun hc => ?_) (fun hc => ?_)
  · have w := w.1 hc
    refine r_aload_n C dX8_shape_35 rfl 0 rfl ?_
    exact r_aret C D rfl (Nat.zero_le _) (Nat.zero_le _) dX8_shape_36 w
  · have w := w.2 hc
    refine r_aload_n C dX8_shape_28 rfl 1 rfl ?_
    refine r_getP C fcX8 (f := 0) (by decide) rfl k250 dX8_shape_29 (w.mono fun x2 w => ?_)
    refine r_goto C dX8_shape_32 (tgt := 36) rfl ?_
    exact r_aret C D rfl (Nat.zero_le _) (Nat.zero_le _) dX8_shape_36 w
def PX8_shape_22 (E : EV) (post : Option AV → AH → Prop) (h : AH) (l0 : Option Nat) : Prop :=
  PX8_shape_23 E post h l0 none
theorem bX8_shape_22 {E : EV} {X : AX} {post : Option AV → AH → Prop} (C : Cb E X cX8_shape RX8 3 rmX8_shape) (D : Cr E X (some (.object "NestingPlanner$Shape")) rmX8_shape "shape" post) {h : AH} {l0 : Option Nat} (w : PX8_shape_22 E post h l0) : Go E X 3 0 0 22 [(0, aP l0)] [] h := by
  unfold PX8_shape_22 at w
  refine r_null C dX8_shape_22 ?_
  exact (bX8_shape_23 C D w)
def PX8_shape_0 (E : EV) (post : Option AV → AH → Prop) (h : AH) (l0 : Option Nat) (l1 : Int32) : Prop :=
  (l1 < 0 → PX8_shape_22 E post h l0) ∧ (¬ l1 < 0 → rdP h l0 8 2 fun x1 => alenP h x1 13 fun x2 => (x2 ≤ l1 → PX8_shape_22 E post h l0) ∧ (¬ x2 ≤ l1 → rdP h l0 8 2 fun x3 => aldP h x3 13 l1 fun x4 => PX8_shape_23 E post h l0 x4))
theorem bX8_shape_0 {E : EV} {X : AX} {post : Option AV → AH → Prop} (C : Cb E X cX8_shape RX8 3 rmX8_shape) (D : Cr E X (some (.object "NestingPlanner$Shape")) rmX8_shape "shape" post) {h : AH} {l0 : Option Nat} {l1 : Int32} (w : PX8_shape_0 E post h l0 l1) : Go E X 3 0 0 0 [(0, aP l0), (1, aI l1)] [] h := by
  unfold PX8_shape_0 at w
  refine r_iload_n C dX8_shape_0 rfl 1 rfl ?_
  refine r_if_lt C dX8_shape_1 (tgt := 22) rfl (fun hc => ?_) (fun hc => ?_)
  · have w := w.1 hc
    exact r_sub [0] rfl (bX8_shape_22 C D w)
  · have w := w.2 hc
    refine r_iload_n C dX8_shape_4 rfl 1 rfl ?_
    refine r_aload_n C dX8_shape_5 rfl 0 rfl ?_
    refine r_getP C fcX8 (f := 2) (by decide) rfl k253 dX8_shape_6 (w.mono fun x1 w => ?_)
    refine r_alenP 13 (by decide) 3 rfl C dX8_shape_9 (w.mono fun x2 w => ?_)
    refine r_icmp_ge C dX8_shape_10 (tgt := 22) rfl (fun hc => ?_) (fun hc => ?_)
    · have w := w.1 hc
      exact r_sub [0] rfl (bX8_shape_22 C D w)
    · have w := w.2 hc
      refine r_aload_n C dX8_shape_13 rfl 0 rfl ?_
      refine r_getP C fcX8 (f := 2) (by decide) rfl k253 dX8_shape_14 (w.mono fun x3 w => ?_)
      refine r_iload_n C dX8_shape_17 rfl 1 rfl ?_
      refine r_aald 13 (by decide) 3 rfl C dX8_shape_18 (w.mono fun x4 w => ?_)
      refine r_goto C dX8_shape_19 (tgt := 23) rfl ?_
      exact r_sub [0] rfl (bX8_shape_23 C D w)
theorem eX8_shape {E : EV} {post : Option AV → AH → Prop} {h : AH} {l0 : Option Nat} {l1 : Int32} (w : PX8_shape_0 E post h l0 l1) : sX8_shape E [aP l0, aI l1] h post := Spec.of RX8 rfl rfl (Nat.le_of_ble_eq_true rfl) fun X C D => bX8_shape_0 C D w
theorem dX8_x_0 : decode cX8_x 0 = .ok (.iload_n 1, 1) := by decide +kernel
theorem dX8_x_1 : decode cX8_x 1 = .ok (.ifCond .lt 21, 3) := by decide +kernel
theorem dX8_x_4 : decode cX8_x 4 = .ok (.iload_n 1, 1) := by decide +kernel
theorem dX8_x_5 : decode cX8_x 5 = .ok (.aload_n 0, 1) := by decide +kernel
theorem dX8_x_6 : decode cX8_x 6 = .ok (.getfield 20, 3) := by decide +kernel
theorem dX8_x_9 : decode cX8_x 9 = .ok (.arraylength, 1) := by decide +kernel
theorem dX8_x_10 : decode cX8_x 10 = .ok (.if_icmp .ge 12, 3) := by decide +kernel
theorem dX8_x_13 : decode cX8_x 13 = .ok (.aload_n 0, 1) := by decide +kernel
theorem dX8_x_14 : decode cX8_x 14 = .ok (.getfield 20, 3) := by decide +kernel
theorem dX8_x_17 : decode cX8_x 17 = .ok (.iload_n 1, 1) := by decide +kernel
theorem dX8_x_18 : decode cX8_x 18 = .ok (.iaload, 1) := by decide +kernel
theorem dX8_x_19 : decode cX8_x 19 = .ok (.goto 4, 3) := by decide +kernel
theorem dX8_x_22 : decode cX8_x 22 = .ok (.iconst 0, 1) := by decide +kernel
theorem dX8_x_23 : decode cX8_x 23 = .ok (.ireturn, 1) := by decide +kernel
abbrev rmX8_x : Room := { frames := 0, cells := 0, slots := 0, locals := 0 }
abbrev sX8_x (E : EV) : List AV → AH → (Option AV → AH → Prop) → Prop := Spec E yX8_x cX8_x 2 (some .int) rmX8_x
theorem mX8_x : Mt yX8_x cX8_x 2 (some .int) 1 := ⟨k377, k10, by decide +kernel⟩
theorem vX8_x : MtV yX8_x 8 := ⟨k375, k376, by decide, (RX8, TX8, 9), rfl, rfl⟩
def PX8_x_0 (E : EV) (post : Option AV → AH → Prop) (h : AH) (l0 : Option Nat) (l1 : Int32) : Prop :=
  (l1 < 0 → post (some (aI (0 : Int32))) h) ∧ (¬ l1 < 0 → rdP h l0 8 3 fun x1 => alenI h x1 0 fun x2 => (x2 ≤ l1 → post (some (aI (0 : Int32))) h) ∧ (¬ x2 ≤ l1 → rdP h l0 8 3 fun x3 => aldI h x3 0 l1 fun x4 => post (some (aI x4)) h))
theorem bX8_x_0 {E : EV} {X : AX} {post : Option AV → AH → Prop} (C : Cb E X cX8_x RX8 2 rmX8_x) (D : Cr E X (some .int) rmX8_x "x" post) {h : AH} {l0 : Option Nat} {l1 : Int32} (w : PX8_x_0 E post h l0 l1) : Go E X 2 0 0 0 [(0, aP l0), (1, aI l1)] [] h := by
  unfold PX8_x_0 at w
  refine r_iload_n C dX8_x_0 rfl 1 rfl ?_
  refine r_if_lt C dX8_x_1 (tgt := 22) rfl (fun hc => ?_) (fun hc => ?_)
  · have w := w.1 hc
    refine r_iconst (v := 0) C dX8_x_22 rfl ?_
    exact r_iret C D rfl (Nat.zero_le _) (Nat.zero_le _) dX8_x_23 w
  · have w := w.2 hc
    refine r_iload_n C dX8_x_4 rfl 1 rfl ?_
    refine r_aload_n C dX8_x_5 rfl 0 rfl ?_
    refine r_getP C fcX8 (f := 3) (by decide) rfl k254 dX8_x_6 (w.mono fun x1 w => ?_)
    refine r_alenI 0 0 rfl C dX8_x_9 (w.mono fun x2 w => ?_)
    refine r_icmp_ge C dX8_x_10 (tgt := 22) rfl (fun hc => ?_) (fun hc => ?_)
    · have w := w.1 hc
      refine r_iconst (v := 0) C dX8_x_22 rfl ?_
      exact r_iret C D rfl (Nat.zero_le _) (Nat.zero_le _) dX8_x_23 w
    · have w := w.2 hc
      refine r_aload_n C dX8_x_13 rfl 0 rfl ?_
      refine r_getP C fcX8 (f := 3) (by decide) rfl k254 dX8_x_14 (w.mono fun x3 w => ?_)
      refine r_iload_n C dX8_x_17 rfl 1 rfl ?_
      refine r_iald C dX8_x_18 (w.mono fun x4 w => ?_)
      refine r_goto C dX8_x_19 (tgt := 23) rfl ?_
      exact r_iret C D rfl (Nat.zero_le _) (Nat.zero_le _) dX8_x_23 w
theorem eX8_x {E : EV} {post : Option AV → AH → Prop} {h : AH} {l0 : Option Nat} {l1 : Int32} (w : PX8_x_0 E post h l0 l1) : sX8_x E [aP l0, aI l1] h post := Spec.of RX8 rfl rfl (Nat.le_of_ble_eq_true rfl) fun X C D => bX8_x_0 C D w
theorem dX8_y_0 : decode cX8_y 0 = .ok (.iload_n 1, 1) := by decide +kernel
theorem dX8_y_1 : decode cX8_y 1 = .ok (.ifCond .lt 21, 3) := by decide +kernel
theorem dX8_y_4 : decode cX8_y 4 = .ok (.iload_n 1, 1) := by decide +kernel
theorem dX8_y_5 : decode cX8_y 5 = .ok (.aload_n 0, 1) := by decide +kernel
theorem dX8_y_6 : decode cX8_y 6 = .ok (.getfield 24, 3) := by decide +kernel
theorem dX8_y_9 : decode cX8_y 9 = .ok (.arraylength, 1) := by decide +kernel
theorem dX8_y_10 : decode cX8_y 10 = .ok (.if_icmp .ge 12, 3) := by decide +kernel
theorem dX8_y_13 : decode cX8_y 13 = .ok (.aload_n 0, 1) := by decide +kernel
theorem dX8_y_14 : decode cX8_y 14 = .ok (.getfield 24, 3) := by decide +kernel
theorem dX8_y_17 : decode cX8_y 17 = .ok (.iload_n 1, 1) := by decide +kernel
theorem dX8_y_18 : decode cX8_y 18 = .ok (.iaload, 1) := by decide +kernel
theorem dX8_y_19 : decode cX8_y 19 = .ok (.goto 4, 3) := by decide +kernel
theorem dX8_y_22 : decode cX8_y 22 = .ok (.iconst 0, 1) := by decide +kernel
theorem dX8_y_23 : decode cX8_y 23 = .ok (.ireturn, 1) := by decide +kernel
abbrev rmX8_y : Room := { frames := 0, cells := 0, slots := 0, locals := 0 }
abbrev sX8_y (E : EV) : List AV → AH → (Option AV → AH → Prop) → Prop := Spec E yX8_y cX8_y 2 (some .int) rmX8_y
theorem mX8_y : Mt yX8_y cX8_y 2 (some .int) 1 := ⟨k381, k10, by decide +kernel⟩
theorem vX8_y : MtV yX8_y 8 := ⟨k379, k380, by decide, (RX8, TX8, 9), rfl, rfl⟩
def PX8_y_0 (E : EV) (post : Option AV → AH → Prop) (h : AH) (l0 : Option Nat) (l1 : Int32) : Prop :=
  (l1 < 0 → post (some (aI (0 : Int32))) h) ∧ (¬ l1 < 0 → rdP h l0 8 4 fun x1 => alenI h x1 0 fun x2 => (x2 ≤ l1 → post (some (aI (0 : Int32))) h) ∧ (¬ x2 ≤ l1 → rdP h l0 8 4 fun x3 => aldI h x3 0 l1 fun x4 => post (some (aI x4)) h))
theorem bX8_y_0 {E : EV} {X : AX} {post : Option AV → AH → Prop} (C : Cb E X cX8_y RX8 2 rmX8_y) (D : Cr E X (some .int) rmX8_y "y" post) {h : AH} {l0 : Option Nat} {l1 : Int32} (w : PX8_y_0 E post h l0 l1) : Go E X 2 0 0 0 [(0, aP l0), (1, aI l1)] [] h := by
  unfold PX8_y_0 at w
  refine r_iload_n C dX8_y_0 rfl 1 rfl ?_
  refine r_if_lt C dX8_y_1 (tgt := 22) rfl (fun hc => ?_) (fun hc => ?_)
  · have w := w.1 hc
    refine r_iconst (v := 0) C dX8_y_22 rfl ?_
    exact r_iret C D rfl (Nat.zero_le _) (Nat.zero_le _) dX8_y_23 w
  · have w := w.2 hc
    refine r_iload_n C dX8_y_4 rfl 1 rfl ?_
    refine r_aload_n C dX8_y_5 rfl 0 rfl ?_
    refine r_getP C fcX8 (f := 4) (by decide) rfl k255 dX8_y_6 (w.mono fun x1 w => ?_)
    refine r_alenI 0 0 rfl C dX8_y_9 (w.mono fun x2 w => ?_)
    refine r_icmp_ge C dX8_y_10 (tgt := 22) rfl (fun hc => ?_) (fun hc => ?_)
    · have w := w.1 hc
      refine r_iconst (v := 0) C dX8_y_22 rfl ?_
      exact r_iret C D rfl (Nat.zero_le _) (Nat.zero_le _) dX8_y_23 w
    · have w := w.2 hc
      refine r_aload_n C dX8_y_13 rfl 0 rfl ?_
      refine r_getP C fcX8 (f := 4) (by decide) rfl k255 dX8_y_14 (w.mono fun x3 w => ?_)
      refine r_iload_n C dX8_y_17 rfl 1 rfl ?_
      refine r_iald C dX8_y_18 (w.mono fun x4 w => ?_)
      refine r_goto C dX8_y_19 (tgt := 23) rfl ?_
      exact r_iret C D rfl (Nat.zero_le _) (Nat.zero_le _) dX8_y_23 w
theorem eX8_y {E : EV} {post : Option AV → AH → Prop} {h : AH} {l0 : Option Nat} {l1 : Int32} (w : PX8_y_0 E post h l0 l1) : sX8_y E [aP l0, aI l1] h post := Spec.of RX8 rfl rfl (Nat.le_of_ble_eq_true rfl) fun X C D => bX8_y_0 C D w
theorem dX8_setPlace_0 : decode cX8_setPlace 0 = .ok (.iload_n 1, 1) := by decide +kernel
theorem dX8_setPlace_1 : decode cX8_setPlace 1 = .ok (.ifCond .lt 35, 3) := by decide +kernel
theorem dX8_setPlace_4 : decode cX8_setPlace 4 = .ok (.iload_n 1, 1) := by decide +kernel
theorem dX8_setPlace_5 : decode cX8_setPlace 5 = .ok (.aload_n 0, 1) := by decide +kernel
theorem dX8_setPlace_6 : decode cX8_setPlace 6 = .ok (.getfield 20, 3) := by decide +kernel
theorem dX8_setPlace_9 : decode cX8_setPlace 9 = .ok (.arraylength, 1) := by decide +kernel
theorem dX8_setPlace_10 : decode cX8_setPlace 10 = .ok (.if_icmp .ge 26, 3) := by decide +kernel
theorem dX8_setPlace_13 : decode cX8_setPlace 13 = .ok (.iload_n 1, 1) := by decide +kernel
theorem dX8_setPlace_14 : decode cX8_setPlace 14 = .ok (.aload_n 0, 1) := by decide +kernel
theorem dX8_setPlace_15 : decode cX8_setPlace 15 = .ok (.getfield 24, 3) := by decide +kernel
theorem dX8_setPlace_18 : decode cX8_setPlace 18 = .ok (.arraylength, 1) := by decide +kernel
theorem dX8_setPlace_19 : decode cX8_setPlace 19 = .ok (.if_icmp .ge 17, 3) := by decide +kernel
theorem dX8_setPlace_22 : decode cX8_setPlace 22 = .ok (.aload_n 0, 1) := by decide +kernel
theorem dX8_setPlace_23 : decode cX8_setPlace 23 = .ok (.getfield 20, 3) := by decide +kernel
theorem dX8_setPlace_26 : decode cX8_setPlace 26 = .ok (.iload_n 1, 1) := by decide +kernel
theorem dX8_setPlace_27 : decode cX8_setPlace 27 = .ok (.iload_n 2, 1) := by decide +kernel
theorem dX8_setPlace_28 : decode cX8_setPlace 28 = .ok (.iastore, 1) := by decide +kernel
theorem dX8_setPlace_29 : decode cX8_setPlace 29 = .ok (.aload_n 0, 1) := by decide +kernel
theorem dX8_setPlace_30 : decode cX8_setPlace 30 = .ok (.getfield 24, 3) := by decide +kernel
theorem dX8_setPlace_33 : decode cX8_setPlace 33 = .ok (.iload_n 1, 1) := by decide +kernel
theorem dX8_setPlace_34 : decode cX8_setPlace 34 = .ok (.iload_n 3, 1) := by decide +kernel
theorem dX8_setPlace_35 : decode cX8_setPlace 35 = .ok (.iastore, 1) := by decide +kernel
theorem dX8_setPlace_36 : decode cX8_setPlace 36 = .ok (.return_, 1) := by decide +kernel
abbrev rmX8_setPlace : Room := { frames := 0, cells := 0, slots := 0, locals := 0 }
abbrev sX8_setPlace (E : EV) : List AV → AH → (Option AV → AH → Prop) → Prop := Spec E yX8_setPlace cX8_setPlace 4 none rmX8_setPlace
theorem mX8_setPlace : Mt yX8_setPlace cX8_setPlace 4 none 3 := ⟨k389, k10, by decide +kernel⟩
theorem vX8_setPlace : MtV yX8_setPlace 8 := ⟨k387, k388, by decide, (RX8, TX8, 9), rfl, rfl⟩
def PX8_setPlace_0 (E : EV) (post : Option AV → AH → Prop) (h : AH) (l0 : Option Nat) (l1 : Int32) (l2 : Int32) (l3 : Int32) : Prop :=
  (l1 < 0 → post none h) ∧ (¬ l1 < 0 → rdP h l0 8 3 fun x1 => alenI h x1 0 fun x2 => (x2 ≤ l1 → post none h) ∧ (¬ x2 ≤ l1 → rdP h l0 8 4 fun x3 => alenI h x3 0 fun x4 => (x4 ≤ l1 → post none h) ∧ (¬ x4 ≤ l1 → rdP h l0 8 3 fun x5 => astI h x5 0 l1 l2 fun h6 => rdP h6 l0 8 4 fun x7 => astI h6 x7 0 l1 l3 fun h8 => post none h8)))
theorem bX8_setPlace_0 {E : EV} {X : AX} {post : Option AV → AH → Prop} (C : Cb E X cX8_setPlace RX8 4 rmX8_setPlace) (D : Cr E X none rmX8_setPlace "setPlace" post) {h : AH} {l0 : Option Nat} {l1 : Int32} {l2 : Int32} {l3 : Int32} (w : PX8_setPlace_0 E post h l0 l1 l2 l3) : Go E X 4 0 0 0 [(0, aP l0), (1, aI l1), (2, aI l2), (3, aI l3)] [] h := by
  unfold PX8_setPlace_0 at w
  refine r_iload_n C dX8_setPlace_0 rfl 1 rfl ?_
  refine r_if_lt C dX8_setPlace_1 (tgt := 36) rfl (fun hc => ?_) (fun hc => ?_)
  · have w := w.1 hc
    exact r_vret C D rfl (Nat.zero_le _) (Nat.zero_le _) dX8_setPlace_36 w
  · have w := w.2 hc
    refine r_iload_n C dX8_setPlace_4 rfl 1 rfl ?_
    refine r_aload_n C dX8_setPlace_5 rfl 0 rfl ?_
    refine r_getP C fcX8 (f := 3) (by decide) rfl k254 dX8_setPlace_6 (w.mono fun x1 w => ?_)
    refine r_alenI 0 0 rfl C dX8_setPlace_9 (w.mono fun x2 w => ?_)
    refine r_icmp_ge C dX8_setPlace_10 (tgt := 36) rfl (fun hc => ?_) (fun hc => ?_)
    · have w := w.1 hc
      exact r_vret C D rfl (Nat.zero_le _) (Nat.zero_le _) dX8_setPlace_36 w
    · have w := w.2 hc
      refine r_iload_n C dX8_setPlace_13 rfl 1 rfl ?_
      refine r_aload_n C dX8_setPlace_14 rfl 0 rfl ?_
      refine r_getP C fcX8 (f := 4) (by decide) rfl k255 dX8_setPlace_15 (w.mono fun x3 w => ?_)
      refine r_alenI 0 0 rfl C dX8_setPlace_18 (w.mono fun x4 w => ?_)
      refine r_icmp_ge C dX8_setPlace_19 (tgt := 36) rfl (fun hc => ?_) (fun hc => ?_)
      · have w := w.1 hc
        exact r_vret C D rfl (Nat.zero_le _) (Nat.zero_le _) dX8_setPlace_36 w
      · have w := w.2 hc
        refine r_aload_n C dX8_setPlace_22 rfl 0 rfl ?_
        refine r_getP C fcX8 (f := 3) (by decide) rfl k254 dX8_setPlace_23 (w.mono fun x5 w => ?_)
        refine r_iload_n C dX8_setPlace_26 rfl 1 rfl ?_
        refine r_iload_n C dX8_setPlace_27 rfl 2 rfl ?_
        refine r_iast C dX8_setPlace_28 (w.mono fun h6 w => ?_)
        refine r_aload_n C dX8_setPlace_29 rfl 0 rfl ?_
        refine r_getP C fcX8 (f := 4) (by decide) rfl k255 dX8_setPlace_30 (w.mono fun x7 w => ?_)
        refine r_iload_n C dX8_setPlace_33 rfl 1 rfl ?_
        refine r_iload_n C dX8_setPlace_34 rfl 3 rfl ?_
        refine r_iast C dX8_setPlace_35 (w.mono fun h8 w => ?_)
        exact r_vret C D rfl (Nat.zero_le _) (Nat.zero_le _) dX8_setPlace_36 w
theorem eX8_setPlace {E : EV} {post : Option AV → AH → Prop} {h : AH} {l0 : Option Nat} {l1 : Int32} {l2 : Int32} {l3 : Int32} (w : PX8_setPlace_0 E post h l0 l1 l2 l3) : sX8_setPlace E [aP l0, aI l1, aI l2, aI l3] h post := Spec.of RX8 rfl rfl (Nat.le_of_ble_eq_true rfl) fun X C D => bX8_setPlace_0 C D w
theorem dX8_setItem_0 : decode cX8_setItem 0 = .ok (.iload_n 1, 1) := by decide +kernel
theorem dX8_setItem_1 : decode cX8_setItem 1 = .ok (.ifCond .lt 27, 3) := by decide +kernel
theorem dX8_setItem_4 : decode cX8_setItem 4 = .ok (.iload_n 1, 1) := by decide +kernel
theorem dX8_setItem_5 : decode cX8_setItem 5 = .ok (.aload_n 0, 1) := by decide +kernel
theorem dX8_setItem_6 : decode cX8_setItem 6 = .ok (.getfield 17, 3) := by decide +kernel
theorem dX8_setItem_9 : decode cX8_setItem 9 = .ok (.arraylength, 1) := by decide +kernel
theorem dX8_setItem_10 : decode cX8_setItem 10 = .ok (.if_icmp .ge 18, 3) := by decide +kernel
theorem dX8_setItem_13 : decode cX8_setItem 13 = .ok (.aload_n 0, 1) := by decide +kernel
theorem dX8_setItem_14 : decode cX8_setItem 14 = .ok (.getfield 17, 3) := by decide +kernel
theorem dX8_setItem_17 : decode cX8_setItem 17 = .ok (.iload_n 1, 1) := by decide +kernel
theorem dX8_setItem_18 : decode cX8_setItem 18 = .ok (.aload_n 2, 1) := by decide +kernel
theorem dX8_setItem_19 : decode cX8_setItem 19 = .ok (.aastore, 1) := by decide +kernel
theorem dX8_setItem_20 : decode cX8_setItem 20 = .ok (.aload_n 0, 1) := by decide +kernel
theorem dX8_setItem_21 : decode cX8_setItem 21 = .ok (.iload_n 1, 1) := by decide +kernel
theorem dX8_setItem_22 : decode cX8_setItem 22 = .ok (.iload_n 3, 1) := by decide +kernel
theorem dX8_setItem_23 : decode cX8_setItem 23 = .ok (.iload 4, 2) := by decide +kernel
theorem dX8_setItem_25 : decode cX8_setItem 25 = .ok (.invokevirtual 62, 3) := by decide +kernel
theorem dX8_setItem_28 : decode cX8_setItem 28 = .ok (.return_, 1) := by decide +kernel
abbrev rmX8_setItem : Room := { frames := 1, cells := 0, slots := 0, locals := 40 }
abbrev sX8_setItem (E : EV) : List AV → AH → (Option AV → AH → Prop) → Prop := Spec E yX8_setItem cX8_setItem 5 none rmX8_setItem
theorem mX8_setItem : Mt yX8_setItem cX8_setItem 5 none 4 := ⟨k385, k10, by decide +kernel⟩
theorem vX8_setItem : MtV yX8_setItem 8 := ⟨k384, kp2, by decide, (RX8, TX8, 9), rfl, rfl⟩
def PX8_setItem_0 (E : EV) (post : Option AV → AH → Prop) (h : AH) (l0 : Option Nat) (l1 : Int32) (l2 : Option Nat) (l3 : Int32) (l4 : Int32) : Prop :=
  (l1 < 0 → post none h) ∧ (¬ l1 < 0 → rdP h l0 8 2 fun x1 => alenP h x1 13 fun x2 => (x2 ≤ l1 → post none h) ∧ (¬ x2 ≤ l1 → rdP h l0 8 2 fun x3 => astP h x3 13 6 l1 l2 fun h4 => CV (sX8_setPlace E) l0 8 [aI l1, aI l3, aI l4] h4 (kV fun h6 => post none h6)))
theorem bX8_setItem_0 {E : EV} {X : AX} {post : Option AV → AH → Prop} (C : Cb E X cX8_setItem RX8 5 rmX8_setItem) (D : Cr E X none rmX8_setItem "setItem" post) {h : AH} {l0 : Option Nat} {l1 : Int32} {l2 : Option Nat} {l3 : Int32} {l4 : Int32} (w : PX8_setItem_0 E post h l0 l1 l2 l3 l4) : Go E X 5 0 0 0 [(0, aP l0), (1, aI l1), (2, aP l2), (3, aI l3), (4, aI l4)] [] h := by
  unfold PX8_setItem_0 at w
  refine r_iload_n C dX8_setItem_0 rfl 1 rfl ?_
  refine r_if_lt C dX8_setItem_1 (tgt := 28) rfl (fun hc => ?_) (fun hc => ?_)
  · have w := w.1 hc
    exact r_vret C D rfl (Nat.zero_le _) (Nat.zero_le _) dX8_setItem_28 w
  · have w := w.2 hc
    refine r_iload_n C dX8_setItem_4 rfl 1 rfl ?_
    refine r_aload_n C dX8_setItem_5 rfl 0 rfl ?_
    refine r_getP C fcX8 (f := 2) (by decide) rfl k253 dX8_setItem_6 (w.mono fun x1 w => ?_)
    refine r_alenP 13 (by decide) 3 rfl C dX8_setItem_9 (w.mono fun x2 w => ?_)
    refine r_icmp_ge C dX8_setItem_10 (tgt := 28) rfl (fun hc => ?_) (fun hc => ?_)
    · have w := w.1 hc
      exact r_vret C D rfl (Nat.zero_le _) (Nat.zero_le _) dX8_setItem_28 w
    · have w := w.2 hc
      refine r_aload_n C dX8_setItem_13 rfl 0 rfl ?_
      refine r_getP C fcX8 (f := 2) (by decide) rfl k253 dX8_setItem_14 (w.mono fun x3 w => ?_)
      refine r_iload_n C dX8_setItem_17 rfl 1 rfl ?_
      refine r_aload_n C dX8_setItem_18 rfl 2 rfl ?_
      refine r_aast 13 6 (by decide) (by decide) 3 (r := (RX6, TX6, 9)) rfl rfl C dX8_setItem_19 (w.mono fun h4 w => ?_)
      refine r_aload_n C dX8_setItem_20 rfl 0 rfl ?_
      refine r_iload_n C dX8_setItem_21 rfl 1 rfl ?_
      refine r_iload_n C dX8_setItem_22 rfl 3 rfl ?_
      refine r_iload C dX8_setItem_23 4 rfl ?_
      refine r_cvV (rm' := rmX8_setPlace) C mX8_setPlace vX8_setPlace k386 [aI l1, aI l3, aI l4] [] rfl rfl (Nat.le_of_ble_eq_true rfl) (by decide) ⟨Nat.zero_le _, Nat.zero_le _⟩ 0 0 rfl rfl dX8_setItem_25 w (fun h6 w => ?_)
      exact r_vret C D rfl (Nat.zero_le _) (Nat.zero_le _) dX8_setItem_28 w
theorem eX8_setItem {E : EV} {post : Option AV → AH → Prop} {h : AH} {l0 : Option Nat} {l1 : Int32} {l2 : Option Nat} {l3 : Int32} {l4 : Int32} (w : PX8_setItem_0 E post h l0 l1 l2 l3 l4) : sX8_setItem E [aP l0, aI l1, aP l2, aI l3, aI l4] h post := Spec.of RX8 rfl rfl (Nat.le_of_ble_eq_true rfl) fun X C D => bX8_setItem_0 C D w
theorem dX8_copy_0 : decode cX8_copy 0 = .ok (.iconst 0, 1) := by decide +kernel
theorem dX8_copy_1 : decode cX8_copy 1 = .ok (.istore_n 2, 1) := by decide +kernel
theorem dX8_copy_2 : decode cX8_copy 2 = .ok (.iload_n 2, 1) := by decide +kernel
theorem dX8_copy_3 : decode cX8_copy 3 = .ok (.aload_n 0, 1) := by decide +kernel
theorem dX8_copy_4 : decode cX8_copy 4 = .ok (.getfield 11, 3) := by decide +kernel
theorem dX8_copy_7 : decode cX8_copy 7 = .ok (.arraylength, 1) := by decide +kernel
theorem dX8_copy_8 : decode cX8_copy 8 = .ok (.if_icmp .ge 20, 3) := by decide +kernel
theorem dX8_copy_11 : decode cX8_copy 11 = .ok (.aload_n 0, 1) := by decide +kernel
theorem dX8_copy_12 : decode cX8_copy 12 = .ok (.getfield 11, 3) := by decide +kernel
theorem dX8_copy_15 : decode cX8_copy 15 = .ok (.iload_n 2, 1) := by decide +kernel
theorem dX8_copy_16 : decode cX8_copy 16 = .ok (.aload_n 1, 1) := by decide +kernel
theorem dX8_copy_17 : decode cX8_copy 17 = .ok (.iload_n 2, 1) := by decide +kernel
theorem dX8_copy_18 : decode cX8_copy 18 = .ok (.invokevirtual 38, 3) := by decide +kernel
theorem dX8_copy_21 : decode cX8_copy 21 = .ok (.aastore, 1) := by decide +kernel
theorem dX8_copy_22 : decode cX8_copy 22 = .ok (.iinc 2 1, 3) := by decide +kernel
theorem dX8_copy_25 : decode cX8_copy 25 = .ok (.goto (-23), 3) := by decide +kernel
theorem dX8_copy_28 : decode cX8_copy 28 = .ok (.iconst 0, 1) := by decide +kernel
theorem dX8_copy_29 : decode cX8_copy 29 = .ok (.istore_n 2, 1) := by decide +kernel
theorem dX8_copy_30 : decode cX8_copy 30 = .ok (.iload_n 2, 1) := by decide +kernel
theorem dX8_copy_31 : decode cX8_copy 31 = .ok (.aload_n 1, 1) := by decide +kernel
theorem dX8_copy_32 : decode cX8_copy 32 = .ok (.getfield 42, 3) := by decide +kernel
theorem dX8_copy_35 : decode cX8_copy 35 = .ok (.if_icmp .ge 29, 3) := by decide +kernel
theorem dX8_copy_38 : decode cX8_copy 38 = .ok (.aload_n 0, 1) := by decide +kernel
theorem dX8_copy_39 : decode cX8_copy 39 = .ok (.iload_n 2, 1) := by decide +kernel
theorem dX8_copy_40 : decode cX8_copy 40 = .ok (.aload_n 1, 1) := by decide +kernel
theorem dX8_copy_41 : decode cX8_copy 41 = .ok (.iload_n 2, 1) := by decide +kernel
theorem dX8_copy_42 : decode cX8_copy 42 = .ok (.invokevirtual 45, 3) := by decide +kernel
theorem dX8_copy_45 : decode cX8_copy 45 = .ok (.aload_n 1, 1) := by decide +kernel
theorem dX8_copy_46 : decode cX8_copy 46 = .ok (.iload_n 2, 1) := by decide +kernel
theorem dX8_copy_47 : decode cX8_copy 47 = .ok (.invokevirtual 48, 3) := by decide +kernel
theorem dX8_copy_50 : decode cX8_copy 50 = .ok (.aload_n 1, 1) := by decide +kernel
theorem dX8_copy_51 : decode cX8_copy 51 = .ok (.iload_n 2, 1) := by decide +kernel
theorem dX8_copy_52 : decode cX8_copy 52 = .ok (.invokevirtual 52, 3) := by decide +kernel
theorem dX8_copy_55 : decode cX8_copy 55 = .ok (.invokevirtual 55, 3) := by decide +kernel
theorem dX8_copy_58 : decode cX8_copy 58 = .ok (.iinc 2 1, 3) := by decide +kernel
theorem dX8_copy_61 : decode cX8_copy 61 = .ok (.goto (-31), 3) := by decide +kernel
theorem dX8_copy_64 : decode cX8_copy 64 = .ok (.aload_n 0, 1) := by decide +kernel
theorem dX8_copy_65 : decode cX8_copy 65 = .ok (.aload_n 1, 1) := by decide +kernel
theorem dX8_copy_66 : decode cX8_copy 66 = .ok (.getfield 42, 3) := by decide +kernel
theorem dX8_copy_69 : decode cX8_copy 69 = .ok (.putfield 42, 3) := by decide +kernel
theorem dX8_copy_72 : decode cX8_copy 72 = .ok (.aload_n 0, 1) := by decide +kernel
theorem dX8_copy_73 : decode cX8_copy 73 = .ok (.aload_n 1, 1) := by decide +kernel
theorem dX8_copy_74 : decode cX8_copy 74 = .ok (.getfield 31, 3) := by decide +kernel
theorem dX8_copy_77 : decode cX8_copy 77 = .ok (.putfield 31, 3) := by decide +kernel
theorem dX8_copy_80 : decode cX8_copy 80 = .ok (.aload_n 0, 1) := by decide +kernel
theorem dX8_copy_81 : decode cX8_copy 81 = .ok (.aload_n 1, 1) := by decide +kernel
theorem dX8_copy_82 : decode cX8_copy 82 = .ok (.getfield 35, 3) := by decide +kernel
theorem dX8_copy_85 : decode cX8_copy 85 = .ok (.putfield 35, 3) := by decide +kernel
theorem dX8_copy_88 : decode cX8_copy 88 = .ok (.aload_n 0, 1) := by decide +kernel
theorem dX8_copy_89 : decode cX8_copy 89 = .ok (.aload_n 1, 1) := by decide +kernel
theorem dX8_copy_90 : decode cX8_copy 90 = .ok (.getfield 59, 3) := by decide +kernel
theorem dX8_copy_93 : decode cX8_copy 93 = .ok (.putfield 59, 3) := by decide +kernel
theorem dX8_copy_96 : decode cX8_copy 96 = .ok (.return_, 1) := by decide +kernel
abbrev rmX8_copy : Room := { frames := 2, cells := 0, slots := 0, locals := 80 }
abbrev sX8_copy (E : EV) : List AV → AH → (Option AV → AH → Prop) → Prop := Spec E yX8_copy cX8_copy 3 none rmX8_copy
theorem mX8_copy : Mt yX8_copy cX8_copy 3 none 1 := ⟨k365, k10, by decide +kernel⟩
theorem vX8_copy : MtV yX8_copy 8 := ⟨k363, k364, by decide, (RX8, TX8, 9), rfl, rfl⟩
def PX8_copy_30 (E : EV) (post : Option AV → AH → Prop) (J30 : AH → Option Nat → Option Nat → Int32 → Prop) (h : AH) (l0 : Option Nat) (l1 : Option Nat) (l2 : Int32) : Prop :=
  rdI h l1 8 5 fun x1 => (x1 ≤ l2 → rdI h l1 8 5 fun x2 => wr h l0 8 5 (aI x2) fun h3 => rdI h3 l1 8 6 fun x4 => wr h3 l0 8 6 (aI x4) fun h5 => rdI h5 l1 8 7 fun x6 => wr h5 l0 8 7 (aI x6) fun h7 => rdI h7 l1 8 8 fun x8 => wr h7 l0 8 8 (aI x8) fun h9 => post none h9) ∧ (¬ x1 ≤ l2 → CV (sX8_shape E) l1 8 [aI l2] h (kP fun x2 h3 => CV (sX8_x E) l1 8 [aI l2] h3 (kI fun x4 h5 => CV (sX8_y E) l1 8 [aI l2] h5 (kI fun x6 h7 => CV (sX8_setItem E) l0 8 [aI l2, aP x2, aI x4, aI x6] h7 (kV fun h9 => J30 h9 l0 l1 (l2 + (1 : Int32)))))))
theorem bX8_copy_30 {E : EV} {X : AX} {post : Option AV → AH → Prop} (C : Cb E X cX8_copy RX8 3 rmX8_copy) (D : Cr E X none rmX8_copy "copy" post) {J30 : AH → Option Nat → Option Nat → Int32 → Prop} (g30 : ∀ (h : AH) (l0 : Option Nat) (l1 : Option Nat) (l2 : Int32), J30 h l0 l1 l2 → Go E X 3 0 0 30 [(0, aP l0), (1, aP l1), (2, aI l2)] [] h) {h : AH} {l0 : Option Nat} {l1 : Option Nat} {l2 : Int32} (w : PX8_copy_30 E post J30 h l0 l1 l2) : Go E X 3 0 0 30 [(0, aP l0), (1, aP l1), (2, aI l2)] [] h := by
  unfold PX8_copy_30 at w
  refine r_iload_n C dX8_copy_30 rfl 2 rfl ?_
  refine r_aload_n C dX8_copy_31 rfl 1 rfl ?_
  refine r_getI C fcX8 (f := 5) (by decide) rfl k256 dX8_copy_32 (w.mono fun x1 w => ?_)
  refine r_icmp_ge C dX8_copy_35 (tgt := 64) rfl (fun hc => ?_) (fun hc => ?_)
  · have w := w.1 hc
    refine r_aload_n C dX8_copy_64 rfl 0 rfl ?_
    refine r_aload_n C dX8_copy_65 rfl 1 rfl ?_
    refine r_getI C fcX8 (f := 5) (by decide) rfl k256 dX8_copy_66 (w.mono fun x2 w => ?_)
    refine r_put C fcX8 (f := 5) (by decide) rfl rfl rfl rfl k256 dX8_copy_69 (w.mono fun h3 w => ?_)
    refine r_aload_n C dX8_copy_72 rfl 0 rfl ?_
    refine r_aload_n C dX8_copy_73 rfl 1 rfl ?_
    refine r_getI C fcX8 (f := 6) (by decide) rfl k259 dX8_copy_74 (w.mono fun x4 w => ?_)
    refine r_put C fcX8 (f := 6) (by decide) rfl rfl rfl rfl k259 dX8_copy_77 (w.mono fun h5 w => ?_)
    refine r_aload_n C dX8_copy_80 rfl 0 rfl ?_
    refine r_aload_n C dX8_copy_81 rfl 1 rfl ?_
    refine r_getI C fcX8 (f := 7) (by decide) rfl k262 dX8_copy_82 (w.mono fun x6 w => ?_)
    refine r_put C fcX8 (f := 7) (by decide) rfl rfl rfl rfl k262 dX8_copy_85 (w.mono fun h7 w => ?_)
    refine r_aload_n C dX8_copy_88 rfl 0 rfl ?_
    refine r_aload_n C dX8_copy_89 rfl 1 rfl ?_
    refine r_getI C fcX8 (f := 8) (by decide) rfl k266 dX8_copy_90 (w.mono fun x8 w => ?_)
    refine r_put C fcX8 (f := 8) (by decide) rfl rfl rfl rfl k266 dX8_copy_93 (w.mono fun h9 w => ?_)
    exact r_vret C D rfl (Nat.zero_le _) (Nat.zero_le _) dX8_copy_96 w
  · have w := w.2 hc
    refine r_aload_n C dX8_copy_38 rfl 0 rfl ?_
    refine r_iload_n C dX8_copy_39 rfl 2 rfl ?_
    refine r_aload_n C dX8_copy_40 rfl 1 rfl ?_
    refine r_iload_n C dX8_copy_41 rfl 2 rfl ?_
    refine r_cvP (rm' := rmX8_shape) C mX8_shape vX8_shape k370 [aI l2] [aI l2, aP l0] rfl rfl (Nat.le_of_ble_eq_true rfl) (by decide) ⟨Nat.zero_le _, Nat.zero_le _⟩ 0 0 rfl rfl dX8_copy_42 w (fun x2 h3 w => ?_)
    refine r_aload_n C dX8_copy_45 rfl 1 rfl ?_
    refine r_iload_n C dX8_copy_46 rfl 2 rfl ?_
    refine r_cvI (rm' := rmX8_x) C mX8_x vX8_x k374 [aI l2] [aP x2, aI l2, aP l0] rfl rfl (Nat.le_of_ble_eq_true rfl) (by decide) ⟨Nat.zero_le _, Nat.zero_le _⟩ 0 0 rfl rfl dX8_copy_47 w (fun x4 h5 w => ?_)
    refine r_aload_n C dX8_copy_50 rfl 1 rfl ?_
    refine r_iload_n C dX8_copy_51 rfl 2 rfl ?_
    refine r_cvI (rm' := rmX8_y) C mX8_y vX8_y k378 [aI l2] [aI x4, aP x2, aI l2, aP l0] rfl rfl (Nat.le_of_ble_eq_true rfl) (by decide) ⟨Nat.zero_le _, Nat.zero_le _⟩ 0 0 rfl rfl dX8_copy_52 w (fun x6 h7 w => ?_)
    refine r_cvV (rm' := rmX8_setItem) C mX8_setItem vX8_setItem k382 [aI l2, aP x2, aI x4, aI x6] [] rfl rfl (Nat.le_of_ble_eq_true rfl) (by decide) ⟨Nat.zero_le _, Nat.zero_le _⟩ 0 0 rfl rfl dX8_copy_55 w (fun h9 w => ?_)
    refine r_iinc C dX8_copy_58 2 rfl (v := 1) rfl (by decide) rfl ?_
    refine r_goto C dX8_copy_61 (tgt := 30) rfl ?_
    exact r_sub [1, 2, 0] rfl (g30 h9 l0 l1 (l2 + (1 : Int32)) w)
theorem lpX8_copy_30 {E : EV} {X : AX} {post : Option AV → AH → Prop} (C : Cb E X cX8_copy RX8 3 rmX8_copy) (D : Cr E X none rmX8_copy "copy" post) (I : Nat → AH → Option Nat → Option Nat → Int32 → Prop) (step : ∀ (z : Nat) (h : AH) (l0 : Option Nat) (l1 : Option Nat) (l2 : Int32), I z h l0 l1 l2 → PX8_copy_30 E post (fun h l0 l1 l2 => ∃ z', z' < z ∧ I z' h l0 l1 l2) h l0 l1 l2) : ∀ (z : Nat) (h : AH) (l0 : Option Nat) (l1 : Option Nat) (l2 : Int32), I z h l0 l1 l2 → Go E X 3 0 0 30 [(0, aP l0), (1, aP l1), (2, aI l2)] [] h := by
  intro z
  induction z using Nat.strongRecOn with
  | _ z ih =>
    intro h l0 l1 l2 hI
    exact bX8_copy_30 C D (fun h l0 l1 l2 hJ => by obtain ⟨z', hz, hi⟩ := hJ; exact ih z' hz h l0 l1 l2 hi) (step z h l0 l1 l2 hI)
def PX8_copy_2 (E : EV) (post : Option AV → AH → Prop) (J2 : AH → Option Nat → Option Nat → Int32 → Prop) (J30 : AH → Option Nat → Option Nat → Int32 → Prop) (h : AH) (l0 : Option Nat) (l1 : Option Nat) (l2 : Int32) : Prop :=
  rdP h l0 8 1 fun x1 => alenP h x1 13 fun x2 => (x2 ≤ l2 → J30 h l0 l1 (0 : Int32)) ∧ (¬ x2 ≤ l2 → rdP h l0 8 1 fun x3 => CV (sX8_slot E) l1 8 [aI l2] h (kP fun x4 h5 => astP h5 x3 13 6 l2 x4 fun h6 => J2 h6 l0 l1 (l2 + (1 : Int32))))
theorem bX8_copy_2 {E : EV} {X : AX} {post : Option AV → AH → Prop} (C : Cb E X cX8_copy RX8 3 rmX8_copy) (D : Cr E X none rmX8_copy "copy" post) {J2 : AH → Option Nat → Option Nat → Int32 → Prop} (g2 : ∀ (h : AH) (l0 : Option Nat) (l1 : Option Nat) (l2 : Int32), J2 h l0 l1 l2 → Go E X 3 0 0 2 [(0, aP l0), (1, aP l1), (2, aI l2)] [] h) {J30 : AH → Option Nat → Option Nat → Int32 → Prop} (g30 : ∀ (h : AH) (l0 : Option Nat) (l1 : Option Nat) (l2 : Int32), J30 h l0 l1 l2 → Go E X 3 0 0 30 [(0, aP l0), (1, aP l1), (2, aI l2)] [] h) {h : AH} {l0 : Option Nat} {l1 : Option Nat} {l2 : Int32} (w : PX8_copy_2 E post J2 J30 h l0 l1 l2) : Go E X 3 0 0 2 [(0, aP l0), (1, aP l1), (2, aI l2)] [] h := by
  unfold PX8_copy_2 at w
  refine r_iload_n C dX8_copy_2 rfl 2 rfl ?_
  refine r_aload_n C dX8_copy_3 rfl 0 rfl ?_
  refine r_getP C fcX8 (f := 1) (by decide) rfl k252 dX8_copy_4 (w.mono fun x1 w => ?_)
  refine r_alenP 13 (by decide) 3 rfl C dX8_copy_7 (w.mono fun x2 w => ?_)
  refine r_icmp_ge C dX8_copy_8 (tgt := 28) rfl (fun hc => ?_) (fun hc => ?_)
  · have w := w.1 hc
    refine r_iconst (v := 0) C dX8_copy_28 rfl ?_
    refine r_istore_n C dX8_copy_29 rfl (by decide) rfl ?_
    exact r_sub [1, 2, 0] rfl (g30 h l0 l1 (0 : Int32) w)
  · have w := w.2 hc
    refine r_aload_n C dX8_copy_11 rfl 0 rfl ?_
    refine r_getP C fcX8 (f := 1) (by decide) rfl k252 dX8_copy_12 (w.mono fun x3 w => ?_)
    refine r_iload_n C dX8_copy_15 rfl 2 rfl ?_
    refine r_aload_n C dX8_copy_16 rfl 1 rfl ?_
    refine r_iload_n C dX8_copy_17 rfl 2 rfl ?_
    refine r_cvP (rm' := rmX8_slot) C mX8_slot vX8_slot k366 [aI l2] [aI l2, aP x3] rfl rfl (Nat.le_of_ble_eq_true rfl) (by decide) ⟨Nat.zero_le _, Nat.zero_le _⟩ 0 0 rfl rfl dX8_copy_18 w (fun x4 h5 w => ?_)
    refine r_aast 13 6 (by decide) (by decide) 3 (r := (RX6, TX6, 9)) rfl rfl C dX8_copy_21 (w.mono fun h6 w => ?_)
    refine r_iinc C dX8_copy_22 2 rfl (v := 1) rfl (by decide) rfl ?_
    refine r_goto C dX8_copy_25 (tgt := 2) rfl ?_
    exact r_sub [1, 2, 0] rfl (g2 h6 l0 l1 (l2 + (1 : Int32)) w)
theorem lpX8_copy_2 {E : EV} {X : AX} {post : Option AV → AH → Prop} (C : Cb E X cX8_copy RX8 3 rmX8_copy) (D : Cr E X none rmX8_copy "copy" post) {J30 : AH → Option Nat → Option Nat → Int32 → Prop} (g30 : ∀ (h : AH) (l0 : Option Nat) (l1 : Option Nat) (l2 : Int32), J30 h l0 l1 l2 → Go E X 3 0 0 30 [(0, aP l0), (1, aP l1), (2, aI l2)] [] h) (I : Nat → AH → Option Nat → Option Nat → Int32 → Prop) (step : ∀ (z : Nat) (h : AH) (l0 : Option Nat) (l1 : Option Nat) (l2 : Int32), I z h l0 l1 l2 → PX8_copy_2 E post (fun h l0 l1 l2 => ∃ z', z' < z ∧ I z' h l0 l1 l2) J30 h l0 l1 l2) : ∀ (z : Nat) (h : AH) (l0 : Option Nat) (l1 : Option Nat) (l2 : Int32), I z h l0 l1 l2 → Go E X 3 0 0 2 [(0, aP l0), (1, aP l1), (2, aI l2)] [] h := by
  intro z
  induction z using Nat.strongRecOn with
  | _ z ih =>
    intro h l0 l1 l2 hI
    exact bX8_copy_2 C D (fun h l0 l1 l2 hJ => by obtain ⟨z', hz, hi⟩ := hJ; exact ih z' hz h l0 l1 l2 hi) g30 (step z h l0 l1 l2 hI)
def PX8_copy_0 (E : EV) (post : Option AV → AH → Prop) (J2 : AH → Option Nat → Option Nat → Int32 → Prop) (h : AH) (l0 : Option Nat) (l1 : Option Nat) : Prop :=
  J2 h l0 l1 (0 : Int32)
theorem bX8_copy_0 {E : EV} {X : AX} {post : Option AV → AH → Prop} (C : Cb E X cX8_copy RX8 3 rmX8_copy) (D : Cr E X none rmX8_copy "copy" post) {J2 : AH → Option Nat → Option Nat → Int32 → Prop} (g2 : ∀ (h : AH) (l0 : Option Nat) (l1 : Option Nat) (l2 : Int32), J2 h l0 l1 l2 → Go E X 3 0 0 2 [(0, aP l0), (1, aP l1), (2, aI l2)] [] h) {h : AH} {l0 : Option Nat} {l1 : Option Nat} (w : PX8_copy_0 E post J2 h l0 l1) : Go E X 3 0 0 0 [(0, aP l0), (1, aP l1)] [] h := by
  unfold PX8_copy_0 at w
  refine r_iconst (v := 0) C dX8_copy_0 rfl ?_
  refine r_istore_n C dX8_copy_1 rfl (by decide) rfl ?_
  exact r_sub [1, 2, 0] rfl (g2 h l0 l1 (0 : Int32) w)
theorem eX8_copy {E : EV} {post : Option AV → AH → Prop} {h : AH} {l0 : Option Nat} {l1 : Option Nat} {J2 : AH → Option Nat → Option Nat → Int32 → Prop} (g2 : ∀ X : AX, Cb E X cX8_copy RX8 3 rmX8_copy → Cr E X none rmX8_copy "copy" post → ∀ (h : AH) (l0 : Option Nat) (l1 : Option Nat) (l2 : Int32), J2 h l0 l1 l2 → Go E X 3 0 0 2 [(0, aP l0), (1, aP l1), (2, aI l2)] [] h) (w : PX8_copy_0 E post J2 h l0 l1) : sX8_copy E [aP l0, aP l1] h post := Spec.of RX8 rfl rfl (Nat.le_of_ble_eq_true rfl) fun X C D => bX8_copy_0 C D (g2 X C D) w
theorem dX1_restore_0 : decode cX1_restore 0 = .ok (.aload_n 0, 1) := by decide +kernel
theorem dX1_restore_1 : decode cX1_restore 1 = .ok (.aload_n 0, 1) := by decide +kernel
theorem dX1_restore_2 : decode cX1_restore 2 = .ok (.getfield 20, 3) := by decide +kernel
theorem dX1_restore_5 : decode cX1_restore 5 = .ok (.iconst 1, 1) := by decide +kernel
theorem dX1_restore_6 : decode cX1_restore 6 = .ok (.isub, 1) := by decide +kernel
theorem dX1_restore_7 : decode cX1_restore 7 = .ok (.invokevirtual 27, 3) := by decide +kernel
theorem dX1_restore_10 : decode cX1_restore 10 = .ok (.astore_n 2, 1) := by decide +kernel
theorem dX1_restore_11 : decode cX1_restore 11 = .ok (.aload_n 2, 1) := by decide +kernel
theorem dX1_restore_12 : decode cX1_restore 12 = .ok (.ifnull 18, 3) := by decide +kernel
theorem dX1_restore_15 : decode cX1_restore 15 = .ok (.aload_n 1, 1) := by decide +kernel
theorem dX1_restore_16 : decode cX1_restore 16 = .ok (.aload_n 2, 1) := by decide +kernel
theorem dX1_restore_17 : decode cX1_restore 17 = .ok (.invokevirtual 31, 3) := by decide +kernel
theorem dX1_restore_20 : decode cX1_restore 20 = .ok (.aload_n 0, 1) := by decide +kernel
theorem dX1_restore_21 : decode cX1_restore 21 = .ok (.dup, 1) := by decide +kernel
theorem dX1_restore_22 : decode cX1_restore 22 = .ok (.getfield 20, 3) := by decide +kernel
theorem dX1_restore_25 : decode cX1_restore 25 = .ok (.iconst 1, 1) := by decide +kernel
theorem dX1_restore_26 : decode cX1_restore 26 = .ok (.isub, 1) := by decide +kernel
theorem dX1_restore_27 : decode cX1_restore 27 = .ok (.putfield 20, 3) := by decide +kernel
theorem dX1_restore_30 : decode cX1_restore 30 = .ok (.return_, 1) := by decide +kernel
abbrev rmX1_restore : Room := { frames := 3, cells := 0, slots := 0, locals := 120 }
abbrev sX1_restore (E : EV) : List AV → AH → (Option AV → AH → Prop) → Prop := Spec E yX1_restore cX1_restore 3 none rmX1_restore
theorem mX1_restore : Mt yX1_restore cX1_restore 3 none 1 := ⟨k566, k11, by decide +kernel⟩
theorem vX1_restore : MtV yX1_restore 1 := ⟨k564, k565, by decide, (RX1, TX1, 2), rfl, rfl⟩
def PX1_restore_0 (E : EV) (post : Option AV → AH → Prop) (h : AH) (l0 : Option Nat) (l1 : Option Nat) : Prop :=
  rdI h l0 1 1 fun x1 => CV (sX1_saved E) l0 1 [aI (x1 - (1 : Int32))] h (kP fun x2 h3 => (x2 = none → post none h3) ∧ (¬ x2 = none → CV (sX8_copy E) l1 8 [aP x2] h3 (kV fun h6 => rdI h6 l0 1 1 fun x7 => wr h6 l0 1 1 (aI (x7 - (1 : Int32))) fun h8 => post none h8)))
theorem bX1_restore_0 {E : EV} {X : AX} {post : Option AV → AH → Prop} (C : Cb E X cX1_restore RX1 3 rmX1_restore) (D : Cr E X none rmX1_restore "restore" post) {h : AH} {l0 : Option Nat} {l1 : Option Nat} (w : PX1_restore_0 E post h l0 l1) : Go E X 3 0 0 0 [(0, aP l0), (1, aP l1)] [] h := by
  unfold PX1_restore_0 at w
  refine r_aload_n C dX1_restore_0 rfl 0 rfl ?_
  refine r_aload_n C dX1_restore_1 rfl 0 rfl ?_
  refine r_getI C fcX1 (f := 1) (by decide) rfl k297 dX1_restore_2 (w.mono fun x1 w => ?_)
  refine r_iconst (v := 1) C dX1_restore_5 rfl ?_
  refine r_isub C dX1_restore_6 ?_
  refine r_cvP (rm' := rmX1_saved) C mX1_saved vX1_saved k358 [aI (x1 - (1 : Int32))] [] rfl rfl (Nat.le_of_ble_eq_true rfl) (by decide) ⟨Nat.zero_le _, Nat.zero_le _⟩ 0 0 rfl rfl dX1_restore_7 w (fun x2 h3 w => ?_)
  refine r_astore_n C dX1_restore_10 rfl (by decide) rfl ?_
  refine r_aload_n C dX1_restore_11 rfl 0 rfl ?_
  refine r_ifnull C dX1_restore_12 (tgt := 30) rfl (fun hc => ?_) (fun hc => ?_)
  · have w := w.1 hc
    exact r_vret C D rfl (Nat.zero_le _) (Nat.zero_le _) dX1_restore_30 w
  · have w := w.2 hc
    refine r_aload_n C dX1_restore_15 rfl 2 rfl ?_
    refine r_aload_n C dX1_restore_16 rfl 0 rfl ?_
    refine r_cvV (rm' := rmX8_copy) C mX8_copy vX8_copy k362 [aP x2] [] rfl rfl (Nat.le_of_ble_eq_true rfl) (by decide) ⟨Nat.zero_le _, Nat.zero_le _⟩ 0 0 rfl rfl dX1_restore_17 w (fun h6 w => ?_)
    refine r_aload_n C dX1_restore_20 rfl 1 rfl ?_
    refine r_dup C dX1_restore_21 rfl ?_
    refine r_getI C fcX1 (f := 1) (by decide) rfl k297 dX1_restore_22 (w.mono fun x7 w => ?_)
    refine r_iconst (v := 1) C dX1_restore_25 rfl ?_
    refine r_isub C dX1_restore_26 ?_
    refine r_put C fcX1 (f := 1) (by decide) rfl rfl rfl rfl k297 dX1_restore_27 (w.mono fun h8 w => ?_)
    exact r_vret C D rfl (Nat.zero_le _) (Nat.zero_le _) dX1_restore_30 w
theorem eX1_restore {E : EV} {post : Option AV → AH → Prop} {h : AH} {l0 : Option Nat} {l1 : Option Nat} (w : PX1_restore_0 E post h l0 l1) : sX1_restore E [aP l0, aP l1] h post := Spec.of RX1 rfl rfl (Nat.le_of_ble_eq_true rfl) fun X C D => bX1_restore_0 C D w
theorem dX1_save_0 : decode cX1_save 0 = .ok (.aload_n 0, 1) := by decide +kernel
theorem dX1_save_1 : decode cX1_save 1 = .ok (.getfield 20, 3) := by decide +kernel
theorem dX1_save_4 : decode cX1_save 4 = .ok (.aload_n 0, 1) := by decide +kernel
theorem dX1_save_5 : decode cX1_save 5 = .ok (.getfield 11, 3) := by decide +kernel
theorem dX1_save_8 : decode cX1_save 8 = .ok (.arraylength, 1) := by decide +kernel
theorem dX1_save_9 : decode cX1_save 9 = .ok (.if_icmp .lt 7, 3) := by decide +kernel
theorem dX1_save_12 : decode cX1_save 12 = .ok (.aload_n 0, 1) := by decide +kernel
theorem dX1_save_13 : decode cX1_save 13 = .ok (.invokevirtual 24, 3) := by decide +kernel
theorem dX1_save_16 : decode cX1_save 16 = .ok (.aload_n 0, 1) := by decide +kernel
theorem dX1_save_17 : decode cX1_save 17 = .ok (.aload_n 0, 1) := by decide +kernel
theorem dX1_save_18 : decode cX1_save 18 = .ok (.getfield 20, 3) := by decide +kernel
theorem dX1_save_21 : decode cX1_save 21 = .ok (.invokevirtual 27, 3) := by decide +kernel
theorem dX1_save_24 : decode cX1_save 24 = .ok (.astore_n 2, 1) := by decide +kernel
theorem dX1_save_25 : decode cX1_save 25 = .ok (.aload_n 2, 1) := by decide +kernel
theorem dX1_save_26 : decode cX1_save 26 = .ok (.ifnull 18, 3) := by decide +kernel
theorem dX1_save_29 : decode cX1_save 29 = .ok (.aload_n 2, 1) := by decide +kernel
theorem dX1_save_30 : decode cX1_save 30 = .ok (.aload_n 1, 1) := by decide +kernel
theorem dX1_save_31 : decode cX1_save 31 = .ok (.invokevirtual 31, 3) := by decide +kernel
theorem dX1_save_34 : decode cX1_save 34 = .ok (.aload_n 0, 1) := by decide +kernel
theorem dX1_save_35 : decode cX1_save 35 = .ok (.dup, 1) := by decide +kernel
theorem dX1_save_36 : decode cX1_save 36 = .ok (.getfield 20, 3) := by decide +kernel
theorem dX1_save_39 : decode cX1_save 39 = .ok (.iconst 1, 1) := by decide +kernel
theorem dX1_save_40 : decode cX1_save 40 = .ok (.iadd, 1) := by decide +kernel
theorem dX1_save_41 : decode cX1_save 41 = .ok (.putfield 20, 3) := by decide +kernel
theorem dX1_save_44 : decode cX1_save 44 = .ok (.return_, 1) := by decide +kernel
abbrev rmX1_save : Room := { frames := 3, cells := 0, slots := 0, locals := 120 }
abbrev sX1_save (E : EV) : List AV → AH → (Option AV → AH → Prop) → Prop := Spec E yX1_save cX1_save 3 none rmX1_save
theorem mX1_save : Mt yX1_save cX1_save 3 none 1 := ⟨k353, k11, by decide +kernel⟩
theorem vX1_save : MtV yX1_save 1 := ⟨k351, k352, by decide, (RX1, TX1, 2), rfl, rfl⟩
def PX1_save_16 (E : EV) (post : Option AV → AH → Prop) (h : AH) (l0 : Option Nat) (l1 : Option Nat) : Prop :=
  rdI h l0 1 1 fun x1 => CV (sX1_saved E) l0 1 [aI x1] h (kP fun x2 h3 => (x2 = none → post none h3) ∧ (¬ x2 = none → CV (sX8_copy E) x2 8 [aP l1] h3 (kV fun h6 => rdI h6 l0 1 1 fun x7 => wr h6 l0 1 1 (aI (x7 + (1 : Int32))) fun h8 => post none h8)))
theorem bX1_save_16 {E : EV} {X : AX} {post : Option AV → AH → Prop} (C : Cb E X cX1_save RX1 3 rmX1_save) (D : Cr E X none rmX1_save "save" post) {h : AH} {l0 : Option Nat} {l1 : Option Nat} (w : PX1_save_16 E post h l0 l1) : Go E X 3 0 0 16 [(0, aP l0), (1, aP l1)] [] h := by
  unfold PX1_save_16 at w
  refine r_aload_n C dX1_save_16 rfl 0 rfl ?_
  refine r_aload_n C dX1_save_17 rfl 0 rfl ?_
  refine r_getI C fcX1 (f := 1) (by decide) rfl k297 dX1_save_18 (w.mono fun x1 w => ?_)
  refine r_cvP (rm' := rmX1_saved) C mX1_saved vX1_saved k358 [aI x1] [] rfl rfl (Nat.le_of_ble_eq_true rfl) (by decide) ⟨Nat.zero_le _, Nat.zero_le _⟩ 0 0 rfl rfl dX1_save_21 w (fun x2 h3 w => ?_)
  refine r_astore_n C dX1_save_24 rfl (by decide) rfl ?_
  refine r_aload_n C dX1_save_25 rfl 0 rfl ?_
  refine r_ifnull C dX1_save_26 (tgt := 44) rfl (fun hc => ?_) (fun hc => ?_)
  · have w := w.1 hc
    exact r_vret C D rfl (Nat.zero_le _) (Nat.zero_le _) dX1_save_44 w
  · have w := w.2 hc
    refine r_aload_n C dX1_save_29 rfl 0 rfl ?_
    refine r_aload_n C dX1_save_30 rfl 2 rfl ?_
    refine r_cvV (rm' := rmX8_copy) C mX8_copy vX8_copy k362 [aP l1] [] rfl rfl (Nat.le_of_ble_eq_true rfl) (by decide) ⟨Nat.zero_le _, Nat.zero_le _⟩ 0 0 rfl rfl dX1_save_31 w (fun h6 w => ?_)
    refine r_aload_n C dX1_save_34 rfl 1 rfl ?_
    refine r_dup C dX1_save_35 rfl ?_
    refine r_getI C fcX1 (f := 1) (by decide) rfl k297 dX1_save_36 (w.mono fun x7 w => ?_)
    refine r_iconst (v := 1) C dX1_save_39 rfl ?_
    refine r_iadd C dX1_save_40 ?_
    refine r_put C fcX1 (f := 1) (by decide) rfl rfl rfl rfl k297 dX1_save_41 (w.mono fun h8 w => ?_)
    exact r_vret C D rfl (Nat.zero_le _) (Nat.zero_le _) dX1_save_44 w
def PX1_save_0 (E : EV) (post : Option AV → AH → Prop) (h : AH) (l0 : Option Nat) (l1 : Option Nat) : Prop :=
  rdI h l0 1 1 fun x1 => rdP h l0 1 0 fun x2 => alenP h x2 14 fun x3 => (x1 < x3 → PX1_save_16 E post h l0 l1) ∧ (¬ x1 < x3 → CV (sX1_discardOldest E) l0 1 [] h (kV fun h5 => PX1_save_16 E post h5 l0 l1))
theorem bX1_save_0 {E : EV} {X : AX} {post : Option AV → AH → Prop} (C : Cb E X cX1_save RX1 3 rmX1_save) (D : Cr E X none rmX1_save "save" post) {h : AH} {l0 : Option Nat} {l1 : Option Nat} (w : PX1_save_0 E post h l0 l1) : Go E X 3 0 0 0 [(0, aP l0), (1, aP l1)] [] h := by
  unfold PX1_save_0 at w
  refine r_aload_n C dX1_save_0 rfl 0 rfl ?_
  refine r_getI C fcX1 (f := 1) (by decide) rfl k297 dX1_save_1 (w.mono fun x1 w => ?_)
  refine r_aload_n C dX1_save_4 rfl 0 rfl ?_
  refine r_getP C fcX1 (f := 0) (by decide) rfl k296 dX1_save_5 (w.mono fun x2 w => ?_)
  refine r_alenP 14 (by decide) 4 rfl C dX1_save_8 (w.mono fun x3 w => ?_)
  refine r_icmp_lt C dX1_save_9 (tgt := 16) rfl (fun hc => ?_) (fun hc => ?_)
  · have w := w.1 hc
    exact (bX1_save_16 C D w)
  · have w := w.2 hc
    refine r_aload_n C dX1_save_12 rfl 0 rfl ?_
    refine r_cvV (rm' := rmX1_discardOldest) C mX1_discardOldest vX1_discardOldest k354 [] [] rfl rfl (Nat.le_of_ble_eq_true rfl) (by decide) ⟨Nat.zero_le _, Nat.zero_le _⟩ 0 0 rfl rfl dX1_save_13 w (fun h5 w => ?_)
    exact (bX1_save_16 C D w)
theorem eX1_save {E : EV} {post : Option AV → AH → Prop} {h : AH} {l0 : Option Nat} {l1 : Option Nat} (w : PX1_save_0 E post h l0 l1) : sX1_save E [aP l0, aP l1] h post := Spec.of RX1 rfl rfl (Nat.le_of_ble_eq_true rfl) fun X C D => bX1_save_0 C D w
theorem dX2_init_0 : decode cX2_init 0 = .ok (.aload_n 0, 1) := by decide +kernel
theorem dX2_init_1 : decode cX2_init 1 = .ok (.invokespecial 3, 3) := by decide +kernel
theorem dX2_init_4 : decode cX2_init 4 = .ok (.aload_n 0, 1) := by decide +kernel
theorem dX2_init_5 : decode cX2_init 5 = .ok (.bipush 8, 2) := by decide +kernel
theorem dX2_init_7 : decode cX2_init 7 = .ok (.newarray .int, 2) := by decide +kernel
theorem dX2_init_9 : decode cX2_init 9 = .ok (.putfield 9, 3) := by decide +kernel
theorem dX2_init_12 : decode cX2_init 12 = .ok (.aload_n 0, 1) := by decide +kernel
theorem dX2_init_13 : decode cX2_init 13 = .ok (.bipush 8, 2) := by decide +kernel
theorem dX2_init_15 : decode cX2_init 15 = .ok (.newarray .int, 2) := by decide +kernel
theorem dX2_init_17 : decode cX2_init 17 = .ok (.putfield 15, 3) := by decide +kernel
theorem dX2_init_20 : decode cX2_init 20 = .ok (.aload_n 0, 1) := by decide +kernel
theorem dX2_init_21 : decode cX2_init 21 = .ok (.bipush 8, 2) := by decide +kernel
theorem dX2_init_23 : decode cX2_init 23 = .ok (.newarray .int, 2) := by decide +kernel
theorem dX2_init_25 : decode cX2_init 25 = .ok (.putfield 18, 3) := by decide +kernel
theorem dX2_init_28 : decode cX2_init 28 = .ok (.return_, 1) := by decide +kernel
abbrev rmX2_init : Room := { frames := 1, cells := 3, slots := 24, locals := 40 }
abbrev sX2_init (E : EV) : List AV → AH → (Option AV → AH → Prop) → Prop := Spec E yX2_init cX2_init 1 none rmX2_init
theorem mX2_init : Mt yX2_init cX2_init 1 none 0 := ⟨k144, k6, by decide +kernel⟩
theorem vX2_init : MtI yX2_init := ⟨rfl, k143⟩
def PX2_init_0 (E : EV) (post : Option AV → AH → Prop) (k n : Nat) (h : AH) (l0 : Nat) : Prop :=
  (k + 1 ≤ 3 ∧ n + 8 ≤ 24) ∧ (∀ h1, h1 = h ++ [.inl (0, List.replicate 8 0)] → wr h1 (some l0) 2 0 (aP (some h.length)) fun h2 => ((k + 1) + 1 ≤ 3 ∧ (n + 8) + 8 ≤ 24) ∧ (∀ h3, h3 = h2 ++ [.inl (0, List.replicate 8 0)] → wr h3 (some l0) 2 1 (aP (some h2.length)) fun h4 => (((k + 1) + 1) + 1 ≤ 3 ∧ ((n + 8) + 8) + 8 ≤ 24) ∧ (∀ h5, h5 = h4 ++ [.inl (0, List.replicate 8 0)] → wr h5 (some l0) 2 2 (aP (some h4.length)) fun h6 => ((((k + 1) + 1) + 1) ≤ 3 ∧ (((n + 8) + 8) + 8) ≤ 24) ∧ post none h6)))
theorem bX2_init_0 {E : EV} {X : AX} {post : Option AV → AH → Prop} (C : Cb E X cX2_init RX2 1 rmX2_init) (D : Cr E X none rmX2_init "<init>" post) {k n : Nat} {h : AH} {l0 : Nat} (w : PX2_init_0 E post k n h l0) : Go E X 1 k n 0 [(0, aP (some l0))] [] h := by
  unfold PX2_init_0 at w
  refine r_aload_n C dX2_init_0 rfl 0 rfl ?_
  refine r_objInit C k145 k19 k20 (by decide) (by decide) (Nat.le_of_ble_eq_true rfl) dX2_init_1 ?_
  refine r_aload_n C dX2_init_4 rfl 0 rfl ?_
  refine r_bipush (v := 8) C dX2_init_5 rfl ?_
  refine r_newaI 0 .int rfl 0 rfl ra_int rfl (N' := 8) C k66 (by decide) rfl (by decide) w.1.1 w.1.2 dX2_init_7 ?_
  have w := w.2 _ rfl
  generalize h ++ [.inl (0, List.replicate 8 0)] = h1 at w ⊢
  refine r_putF C D fcX2 (f := 0) (by decide) rfl rfl rfl rfl (ft_A _ _) k146 dX2_init_9 (w.mono fun h2 w => ?_)
  refine r_aload_n C dX2_init_12 rfl 0 rfl ?_
  refine r_bipush (v := 8) C dX2_init_13 rfl ?_
  refine r_newaI 0 .int rfl 0 rfl ra_int rfl (N' := 8) C k66 (by decide) rfl (by decide) w.1.1 w.1.2 dX2_init_15 ?_
  have w := w.2 _ rfl
  generalize h2 ++ [.inl (0, List.replicate 8 0)] = h3 at w ⊢
  refine r_putF C D fcX2 (f := 1) (by decide) rfl rfl rfl rfl (ft_A _ _) k147 dX2_init_17 (w.mono fun h4 w => ?_)
  refine r_aload_n C dX2_init_20 rfl 0 rfl ?_
  refine r_bipush (v := 8) C dX2_init_21 rfl ?_
  refine r_newaI 0 .int rfl 0 rfl ra_int rfl (N' := 8) C k66 (by decide) rfl (by decide) w.1.1 w.1.2 dX2_init_23 ?_
  have w := w.2 _ rfl
  generalize h4 ++ [.inl (0, List.replicate 8 0)] = h5 at w ⊢
  refine r_putF C D fcX2 (f := 2) (by decide) rfl rfl rfl rfl (ft_A _ _) k148 dX2_init_25 (w.mono fun h6 w => ?_)
  exact r_vret C D rfl w.1.1 w.1.2 dX2_init_28 w.2
theorem eX2_init {E : EV} {post : Option AV → AH → Prop} {h : AH} {l0 : Nat} (w : PX2_init_0 E post 0 0 h l0) : sX2_init E [aP (some l0)] h post := Spec.of RX2 rfl rfl (Nat.le_of_ble_eq_true rfl) fun X C D => bX2_init_0 C D w
theorem dX2_keep_0 : decode cX2_keep 0 = .ok (.aload_n 0, 1) := by decide +kernel
theorem dX2_keep_1 : decode cX2_keep 1 = .ok (.getfield 21, 3) := by decide +kernel
theorem dX2_keep_4 : decode cX2_keep 4 = .ok (.ifCond .lt 69, 3) := by decide +kernel
theorem dX2_keep_7 : decode cX2_keep 7 = .ok (.aload_n 0, 1) := by decide +kernel
theorem dX2_keep_8 : decode cX2_keep 8 = .ok (.getfield 21, 3) := by decide +kernel
theorem dX2_keep_11 : decode cX2_keep 11 = .ok (.aload_n 0, 1) := by decide +kernel
theorem dX2_keep_12 : decode cX2_keep 12 = .ok (.getfield 9, 3) := by decide +kernel
theorem dX2_keep_15 : decode cX2_keep 15 = .ok (.arraylength, 1) := by decide +kernel
theorem dX2_keep_16 : decode cX2_keep 16 = .ok (.if_icmp .ge 57, 3) := by decide +kernel
theorem dX2_keep_19 : decode cX2_keep 19 = .ok (.aload_n 0, 1) := by decide +kernel
theorem dX2_keep_20 : decode cX2_keep 20 = .ok (.getfield 21, 3) := by decide +kernel
theorem dX2_keep_23 : decode cX2_keep 23 = .ok (.aload_n 0, 1) := by decide +kernel
theorem dX2_keep_24 : decode cX2_keep 24 = .ok (.getfield 15, 3) := by decide +kernel
theorem dX2_keep_27 : decode cX2_keep 27 = .ok (.arraylength, 1) := by decide +kernel
theorem dX2_keep_28 : decode cX2_keep 28 = .ok (.if_icmp .ge 45, 3) := by decide +kernel
theorem dX2_keep_31 : decode cX2_keep 31 = .ok (.aload_n 0, 1) := by decide +kernel
theorem dX2_keep_32 : decode cX2_keep 32 = .ok (.getfield 21, 3) := by decide +kernel
theorem dX2_keep_35 : decode cX2_keep 35 = .ok (.aload_n 0, 1) := by decide +kernel
theorem dX2_keep_36 : decode cX2_keep 36 = .ok (.getfield 18, 3) := by decide +kernel
theorem dX2_keep_39 : decode cX2_keep 39 = .ok (.arraylength, 1) := by decide +kernel
theorem dX2_keep_40 : decode cX2_keep 40 = .ok (.if_icmp .ge 33, 3) := by decide +kernel
theorem dX2_keep_43 : decode cX2_keep 43 = .ok (.aload_n 0, 1) := by decide +kernel
theorem dX2_keep_44 : decode cX2_keep 44 = .ok (.getfield 9, 3) := by decide +kernel
theorem dX2_keep_47 : decode cX2_keep 47 = .ok (.aload_n 0, 1) := by decide +kernel
theorem dX2_keep_48 : decode cX2_keep 48 = .ok (.getfield 21, 3) := by decide +kernel
theorem dX2_keep_51 : decode cX2_keep 51 = .ok (.iload_n 1, 1) := by decide +kernel
theorem dX2_keep_52 : decode cX2_keep 52 = .ok (.iastore, 1) := by decide +kernel
theorem dX2_keep_53 : decode cX2_keep 53 = .ok (.aload_n 0, 1) := by decide +kernel
theorem dX2_keep_54 : decode cX2_keep 54 = .ok (.getfield 15, 3) := by decide +kernel
theorem dX2_keep_57 : decode cX2_keep 57 = .ok (.aload_n 0, 1) := by decide +kernel
theorem dX2_keep_58 : decode cX2_keep 58 = .ok (.getfield 21, 3) := by decide +kernel
theorem dX2_keep_61 : decode cX2_keep 61 = .ok (.iload_n 2, 1) := by decide +kernel
theorem dX2_keep_62 : decode cX2_keep 62 = .ok (.iastore, 1) := by decide +kernel
theorem dX2_keep_63 : decode cX2_keep 63 = .ok (.aload_n 0, 1) := by decide +kernel
theorem dX2_keep_64 : decode cX2_keep 64 = .ok (.getfield 18, 3) := by decide +kernel
theorem dX2_keep_67 : decode cX2_keep 67 = .ok (.aload_n 0, 1) := by decide +kernel
theorem dX2_keep_68 : decode cX2_keep 68 = .ok (.getfield 21, 3) := by decide +kernel
theorem dX2_keep_71 : decode cX2_keep 71 = .ok (.iload_n 3, 1) := by decide +kernel
theorem dX2_keep_72 : decode cX2_keep 72 = .ok (.iastore, 1) := by decide +kernel
theorem dX2_keep_73 : decode cX2_keep 73 = .ok (.aload_n 0, 1) := by decide +kernel
theorem dX2_keep_74 : decode cX2_keep 74 = .ok (.dup, 1) := by decide +kernel
theorem dX2_keep_75 : decode cX2_keep 75 = .ok (.getfield 21, 3) := by decide +kernel
theorem dX2_keep_78 : decode cX2_keep 78 = .ok (.iconst 1, 1) := by decide +kernel
theorem dX2_keep_79 : decode cX2_keep 79 = .ok (.iadd, 1) := by decide +kernel
theorem dX2_keep_80 : decode cX2_keep 80 = .ok (.putfield 21, 3) := by decide +kernel
theorem dX2_keep_83 : decode cX2_keep 83 = .ok (.return_, 1) := by decide +kernel
abbrev rmX2_keep : Room := { frames := 0, cells := 0, slots := 0, locals := 0 }
abbrev sX2_keep (E : EV) : List AV → AH → (Option AV → AH → Prop) → Prop := Spec E yX2_keep cX2_keep 4 none rmX2_keep
theorem mX2_keep : Mt yX2_keep cX2_keep 4 none 3 := ⟨k876, k6, by decide +kernel⟩
theorem vX2_keep : MtV yX2_keep 2 := ⟨k875, kp24, by decide, (RX2, TX2, 4), rfl, rfl⟩
def PX2_keep_73 (E : EV) (post : Option AV → AH → Prop) (h : AH) (l0 : Option Nat) : Prop :=
  rdI h l0 2 3 fun x1 => wr h l0 2 3 (aI (x1 + (1 : Int32))) fun h2 => post none h2
theorem bX2_keep_73 {E : EV} {X : AX} {post : Option AV → AH → Prop} (C : Cb E X cX2_keep RX2 4 rmX2_keep) (D : Cr E X none rmX2_keep "keep" post) {h : AH} {l0 : Option Nat} (w : PX2_keep_73 E post h l0) : Go E X 4 0 0 73 [(0, aP l0)] [] h := by
  unfold PX2_keep_73 at w
  refine r_aload_n C dX2_keep_73 rfl 0 rfl ?_
  refine r_dup C dX2_keep_74 rfl ?_
  refine r_getI C fcX2 (f := 3) (by decide) rfl k149 dX2_keep_75 (w.mono fun x1 w => ?_)
  refine r_iconst (v := 1) C dX2_keep_78 rfl ?_
  refine r_iadd C dX2_keep_79 ?_
  refine r_put C fcX2 (f := 3) (by decide) rfl rfl rfl rfl k149 dX2_keep_80 (w.mono fun h2 w => ?_)
  exact r_vret C D rfl (Nat.zero_le _) (Nat.zero_le _) dX2_keep_83 w
def PX2_keep_0 (E : EV) (post : Option AV → AH → Prop) (h : AH) (l0 : Option Nat) (l1 : Int32) (l2 : Int32) (l3 : Int32) : Prop :=
  rdI h l0 2 3 fun x1 => (x1 < 0 → PX2_keep_73 E post h l0) ∧ (¬ x1 < 0 → rdI h l0 2 3 fun x2 => rdP h l0 2 0 fun x3 => alenI h x3 0 fun x4 => (x4 ≤ x2 → PX2_keep_73 E post h l0) ∧ (¬ x4 ≤ x2 → rdI h l0 2 3 fun x5 => rdP h l0 2 1 fun x6 => alenI h x6 0 fun x7 => (x7 ≤ x5 → PX2_keep_73 E post h l0) ∧ (¬ x7 ≤ x5 → rdI h l0 2 3 fun x8 => rdP h l0 2 2 fun x9 => alenI h x9 0 fun x10 => (x10 ≤ x8 → PX2_keep_73 E post h l0) ∧ (¬ x10 ≤ x8 → rdP h l0 2 0 fun x11 => rdI h l0 2 3 fun x12 => astI h x11 0 x12 l1 fun h13 => rdP h13 l0 2 1 fun x14 => rdI h13 l0 2 3 fun x15 => astI h13 x14 0 x15 l2 fun h16 => rdP h16 l0 2 2 fun x17 => rdI h16 l0 2 3 fun x18 => astI h16 x17 0 x18 l3 fun h19 => PX2_keep_73 E post h19 l0))))
theorem bX2_keep_0 {E : EV} {X : AX} {post : Option AV → AH → Prop} (C : Cb E X cX2_keep RX2 4 rmX2_keep) (D : Cr E X none rmX2_keep "keep" post) {h : AH} {l0 : Option Nat} {l1 : Int32} {l2 : Int32} {l3 : Int32} (w : PX2_keep_0 E post h l0 l1 l2 l3) : Go E X 4 0 0 0 [(0, aP l0), (1, aI l1), (2, aI l2), (3, aI l3)] [] h := by
  unfold PX2_keep_0 at w
  refine r_aload_n C dX2_keep_0 rfl 0 rfl ?_
  refine r_getI C fcX2 (f := 3) (by decide) rfl k149 dX2_keep_1 (w.mono fun x1 w => ?_)
  refine r_if_lt C dX2_keep_4 (tgt := 73) rfl (fun hc => ?_) (fun hc => ?_)
  · have w := w.1 hc
    exact r_sub [0] rfl (bX2_keep_73 C D w)
  · have w := w.2 hc
    refine r_aload_n C dX2_keep_7 rfl 0 rfl ?_
    refine r_getI C fcX2 (f := 3) (by decide) rfl k149 dX2_keep_8 (w.mono fun x2 w => ?_)
    refine r_aload_n C dX2_keep_11 rfl 0 rfl ?_
    refine r_getP C fcX2 (f := 0) (by decide) rfl k146 dX2_keep_12 (w.mono fun x3 w => ?_)
    refine r_alenI 0 0 rfl C dX2_keep_15 (w.mono fun x4 w => ?_)
    refine r_icmp_ge C dX2_keep_16 (tgt := 73) rfl (fun hc => ?_) (fun hc => ?_)
    · have w := w.1 hc
      exact r_sub [0] rfl (bX2_keep_73 C D w)
    · have w := w.2 hc
      refine r_aload_n C dX2_keep_19 rfl 0 rfl ?_
      refine r_getI C fcX2 (f := 3) (by decide) rfl k149 dX2_keep_20 (w.mono fun x5 w => ?_)
      refine r_aload_n C dX2_keep_23 rfl 0 rfl ?_
      refine r_getP C fcX2 (f := 1) (by decide) rfl k147 dX2_keep_24 (w.mono fun x6 w => ?_)
      refine r_alenI 0 0 rfl C dX2_keep_27 (w.mono fun x7 w => ?_)
      refine r_icmp_ge C dX2_keep_28 (tgt := 73) rfl (fun hc => ?_) (fun hc => ?_)
      · have w := w.1 hc
        exact r_sub [0] rfl (bX2_keep_73 C D w)
      · have w := w.2 hc
        refine r_aload_n C dX2_keep_31 rfl 0 rfl ?_
        refine r_getI C fcX2 (f := 3) (by decide) rfl k149 dX2_keep_32 (w.mono fun x8 w => ?_)
        refine r_aload_n C dX2_keep_35 rfl 0 rfl ?_
        refine r_getP C fcX2 (f := 2) (by decide) rfl k148 dX2_keep_36 (w.mono fun x9 w => ?_)
        refine r_alenI 0 0 rfl C dX2_keep_39 (w.mono fun x10 w => ?_)
        refine r_icmp_ge C dX2_keep_40 (tgt := 73) rfl (fun hc => ?_) (fun hc => ?_)
        · have w := w.1 hc
          exact r_sub [0] rfl (bX2_keep_73 C D w)
        · have w := w.2 hc
          refine r_aload_n C dX2_keep_43 rfl 0 rfl ?_
          refine r_getP C fcX2 (f := 0) (by decide) rfl k146 dX2_keep_44 (w.mono fun x11 w => ?_)
          refine r_aload_n C dX2_keep_47 rfl 0 rfl ?_
          refine r_getI C fcX2 (f := 3) (by decide) rfl k149 dX2_keep_48 (w.mono fun x12 w => ?_)
          refine r_iload_n C dX2_keep_51 rfl 1 rfl ?_
          refine r_iast C dX2_keep_52 (w.mono fun h13 w => ?_)
          refine r_aload_n C dX2_keep_53 rfl 0 rfl ?_
          refine r_getP C fcX2 (f := 1) (by decide) rfl k147 dX2_keep_54 (w.mono fun x14 w => ?_)
          refine r_aload_n C dX2_keep_57 rfl 0 rfl ?_
          refine r_getI C fcX2 (f := 3) (by decide) rfl k149 dX2_keep_58 (w.mono fun x15 w => ?_)
          refine r_iload_n C dX2_keep_61 rfl 2 rfl ?_
          refine r_iast C dX2_keep_62 (w.mono fun h16 w => ?_)
          refine r_aload_n C dX2_keep_63 rfl 0 rfl ?_
          refine r_getP C fcX2 (f := 2) (by decide) rfl k148 dX2_keep_64 (w.mono fun x17 w => ?_)
          refine r_aload_n C dX2_keep_67 rfl 0 rfl ?_
          refine r_getI C fcX2 (f := 3) (by decide) rfl k149 dX2_keep_68 (w.mono fun x18 w => ?_)
          refine r_iload_n C dX2_keep_71 rfl 3 rfl ?_
          refine r_iast C dX2_keep_72 (w.mono fun h19 w => ?_)
          exact r_sub [0] rfl (bX2_keep_73 C D w)
theorem eX2_keep {E : EV} {post : Option AV → AH → Prop} {h : AH} {l0 : Option Nat} {l1 : Int32} {l2 : Int32} {l3 : Int32} (w : PX2_keep_0 E post h l0 l1 l2 l3) : sX2_keep E [aP l0, aI l1, aI l2, aI l3] h post := Spec.of RX2 rfl rfl (Nat.le_of_ble_eq_true rfl) fun X C D => bX2_keep_0 C D w
theorem dX9_skipSpaces_0 : decode cX9_skipSpaces 0 = .ok (.aload_n 0, 1) := by decide +kernel
theorem dX9_skipSpaces_1 : decode cX9_skipSpaces 1 = .ok (.getfield 19, 3) := by decide +kernel
theorem dX9_skipSpaces_4 : decode cX9_skipSpaces 4 = .ok (.ifCond .lt 53, 3) := by decide +kernel
theorem dX9_skipSpaces_7 : decode cX9_skipSpaces 7 = .ok (.aload_n 0, 1) := by decide +kernel
theorem dX9_skipSpaces_8 : decode cX9_skipSpaces 8 = .ok (.getfield 19, 3) := by decide +kernel
theorem dX9_skipSpaces_11 : decode cX9_skipSpaces 11 = .ok (.aload_n 0, 1) := by decide +kernel
theorem dX9_skipSpaces_12 : decode cX9_skipSpaces 12 = .ok (.getfield 9, 3) := by decide +kernel
theorem dX9_skipSpaces_15 : decode cX9_skipSpaces 15 = .ok (.arraylength, 1) := by decide +kernel
theorem dX9_skipSpaces_16 : decode cX9_skipSpaces 16 = .ok (.if_icmp .ge 41, 3) := by decide +kernel
theorem dX9_skipSpaces_19 : decode cX9_skipSpaces 19 = .ok (.aload_n 0, 1) := by decide +kernel
theorem dX9_skipSpaces_20 : decode cX9_skipSpaces 20 = .ok (.getfield 19, 3) := by decide +kernel
theorem dX9_skipSpaces_23 : decode cX9_skipSpaces 23 = .ok (.aload_n 0, 1) := by decide +kernel
theorem dX9_skipSpaces_24 : decode cX9_skipSpaces 24 = .ok (.getfield 15, 3) := by decide +kernel
theorem dX9_skipSpaces_27 : decode cX9_skipSpaces 27 = .ok (.if_icmp .ge 30, 3) := by decide +kernel
theorem dX9_skipSpaces_30 : decode cX9_skipSpaces 30 = .ok (.aload_n 0, 1) := by decide +kernel
theorem dX9_skipSpaces_31 : decode cX9_skipSpaces 31 = .ok (.getfield 9, 3) := by decide +kernel
theorem dX9_skipSpaces_34 : decode cX9_skipSpaces 34 = .ok (.aload_n 0, 1) := by decide +kernel
theorem dX9_skipSpaces_35 : decode cX9_skipSpaces 35 = .ok (.getfield 19, 3) := by decide +kernel
theorem dX9_skipSpaces_38 : decode cX9_skipSpaces 38 = .ok (.iaload, 1) := by decide +kernel
theorem dX9_skipSpaces_39 : decode cX9_skipSpaces 39 = .ok (.bipush 32, 2) := by decide +kernel
theorem dX9_skipSpaces_41 : decode cX9_skipSpaces 41 = .ok (.if_icmp .ne 16, 3) := by decide +kernel
theorem dX9_skipSpaces_44 : decode cX9_skipSpaces 44 = .ok (.aload_n 0, 1) := by decide +kernel
theorem dX9_skipSpaces_45 : decode cX9_skipSpaces 45 = .ok (.dup, 1) := by decide +kernel
theorem dX9_skipSpaces_46 : decode cX9_skipSpaces 46 = .ok (.getfield 19, 3) := by decide +kernel
theorem dX9_skipSpaces_49 : decode cX9_skipSpaces 49 = .ok (.iconst 1, 1) := by decide +kernel
theorem dX9_skipSpaces_50 : decode cX9_skipSpaces 50 = .ok (.iadd, 1) := by decide +kernel
theorem dX9_skipSpaces_51 : decode cX9_skipSpaces 51 = .ok (.putfield 19, 3) := by decide +kernel
theorem dX9_skipSpaces_54 : decode cX9_skipSpaces 54 = .ok (.goto (-54), 3) := by decide +kernel
theorem dX9_skipSpaces_57 : decode cX9_skipSpaces 57 = .ok (.return_, 1) := by decide +kernel
abbrev rmX9_skipSpaces : Room := { frames := 0, cells := 0, slots := 0, locals := 0 }
abbrev sX9_skipSpaces (E : EV) : List AV → AH → (Option AV → AH → Prop) → Prop := Spec E yX9_skipSpaces cX9_skipSpaces 1 none rmX9_skipSpaces
theorem mX9_skipSpaces : Mt yX9_skipSpaces cX9_skipSpaces 1 none 0 := ⟨k706, k3, by decide +kernel⟩
theorem vX9_skipSpaces : MtV yX9_skipSpaces 9 := ⟨k704, k705, by decide, (RX9, TX9, 4), rfl, rfl⟩
def PX9_skipSpaces_0 (E : EV) (post : Option AV → AH → Prop) (J0 : AH → Option Nat → Prop) (h : AH) (l0 : Option Nat) : Prop :=
  rdI h l0 9 2 fun x1 => (x1 < 0 → post none h) ∧ (¬ x1 < 0 → rdI h l0 9 2 fun x2 => rdP h l0 9 0 fun x3 => alenI h x3 0 fun x4 => (x4 ≤ x2 → post none h) ∧ (¬ x4 ≤ x2 → rdI h l0 9 2 fun x5 => rdI h l0 9 1 fun x6 => (x6 ≤ x5 → post none h) ∧ (¬ x6 ≤ x5 → rdP h l0 9 0 fun x7 => rdI h l0 9 2 fun x8 => aldI h x7 0 x8 fun x9 => (¬ x9 = (32 : Int32) → post none h) ∧ (x9 = (32 : Int32) → rdI h l0 9 2 fun x10 => wr h l0 9 2 (aI (x10 + (1 : Int32))) fun h11 => J0 h11 l0))))
theorem bX9_skipSpaces_0 {E : EV} {X : AX} {post : Option AV → AH → Prop} (C : Cb E X cX9_skipSpaces RX9 1 rmX9_skipSpaces) (D : Cr E X none rmX9_skipSpaces "skipSpaces" post) {J0 : AH → Option Nat → Prop} (g0 : ∀ (h : AH) (l0 : Option Nat), J0 h l0 → Go E X 1 0 0 0 [(0, aP l0)] [] h) {h : AH} {l0 : Option Nat} (w : PX9_skipSpaces_0 E post J0 h l0) : Go E X 1 0 0 0 [(0, aP l0)] [] h := by
  unfold PX9_skipSpaces_0 at w
  refine r_aload_n C dX9_skipSpaces_0 rfl 0 rfl ?_
  refine r_getI C fcX9 (f := 2) (by decide) rfl k78 dX9_skipSpaces_1 (w.mono fun x1 w => ?_)
  refine r_if_lt C dX9_skipSpaces_4 (tgt := 57) rfl (fun hc => ?_) (fun hc => ?_)
  · have w := w.1 hc
    exact r_vret C D rfl (Nat.zero_le _) (Nat.zero_le _) dX9_skipSpaces_57 w
  · have w := w.2 hc
    refine r_aload_n C dX9_skipSpaces_7 rfl 0 rfl ?_
    refine r_getI C fcX9 (f := 2) (by decide) rfl k78 dX9_skipSpaces_8 (w.mono fun x2 w => ?_)
    refine r_aload_n C dX9_skipSpaces_11 rfl 0 rfl ?_
    refine r_getP C fcX9 (f := 0) (by decide) rfl k73 dX9_skipSpaces_12 (w.mono fun x3 w => ?_)
    refine r_alenI 0 0 rfl C dX9_skipSpaces_15 (w.mono fun x4 w => ?_)
    refine r_icmp_ge C dX9_skipSpaces_16 (tgt := 57) rfl (fun hc => ?_) (fun hc => ?_)
    · have w := w.1 hc
      exact r_vret C D rfl (Nat.zero_le _) (Nat.zero_le _) dX9_skipSpaces_57 w
    · have w := w.2 hc
      refine r_aload_n C dX9_skipSpaces_19 rfl 0 rfl ?_
      refine r_getI C fcX9 (f := 2) (by decide) rfl k78 dX9_skipSpaces_20 (w.mono fun x5 w => ?_)
      refine r_aload_n C dX9_skipSpaces_23 rfl 0 rfl ?_
      refine r_getI C fcX9 (f := 1) (by decide) rfl k74 dX9_skipSpaces_24 (w.mono fun x6 w => ?_)
      refine r_icmp_ge C dX9_skipSpaces_27 (tgt := 57) rfl (fun hc => ?_) (fun hc => ?_)
      · have w := w.1 hc
        exact r_vret C D rfl (Nat.zero_le _) (Nat.zero_le _) dX9_skipSpaces_57 w
      · have w := w.2 hc
        refine r_aload_n C dX9_skipSpaces_30 rfl 0 rfl ?_
        refine r_getP C fcX9 (f := 0) (by decide) rfl k73 dX9_skipSpaces_31 (w.mono fun x7 w => ?_)
        refine r_aload_n C dX9_skipSpaces_34 rfl 0 rfl ?_
        refine r_getI C fcX9 (f := 2) (by decide) rfl k78 dX9_skipSpaces_35 (w.mono fun x8 w => ?_)
        refine r_iald C dX9_skipSpaces_38 (w.mono fun x9 w => ?_)
        refine r_bipush (v := 32) C dX9_skipSpaces_39 rfl ?_
        refine r_icmp_ne C dX9_skipSpaces_41 (tgt := 57) rfl (fun hc => ?_) (fun hc => ?_)
        · have w := w.1 hc
          exact r_vret C D rfl (Nat.zero_le _) (Nat.zero_le _) dX9_skipSpaces_57 w
        · have w := w.2 hc
          refine r_aload_n C dX9_skipSpaces_44 rfl 0 rfl ?_
          refine r_dup C dX9_skipSpaces_45 rfl ?_
          refine r_getI C fcX9 (f := 2) (by decide) rfl k78 dX9_skipSpaces_46 (w.mono fun x10 w => ?_)
          refine r_iconst (v := 1) C dX9_skipSpaces_49 rfl ?_
          refine r_iadd C dX9_skipSpaces_50 ?_
          refine r_put C fcX9 (f := 2) (by decide) rfl rfl rfl rfl k78 dX9_skipSpaces_51 (w.mono fun h11 w => ?_)
          refine r_goto C dX9_skipSpaces_54 (tgt := 0) rfl ?_
          exact (g0 h11 l0 w)
theorem lpX9_skipSpaces_0 {E : EV} {X : AX} {post : Option AV → AH → Prop} (C : Cb E X cX9_skipSpaces RX9 1 rmX9_skipSpaces) (D : Cr E X none rmX9_skipSpaces "skipSpaces" post) (I : Nat → AH → Option Nat → Prop) (step : ∀ (z : Nat) (h : AH) (l0 : Option Nat), I z h l0 → PX9_skipSpaces_0 E post (fun h l0 => ∃ z', z' < z ∧ I z' h l0) h l0) : ∀ (z : Nat) (h : AH) (l0 : Option Nat), I z h l0 → Go E X 1 0 0 0 [(0, aP l0)] [] h := by
  intro z
  induction z using Nat.strongRecOn with
  | _ z ih =>
    intro h l0 hI
    exact bX9_skipSpaces_0 C D (fun h l0 hJ => by obtain ⟨z', hz, hi⟩ := hJ; exact ih z' hz h l0 hi) (step z h l0 hI)
theorem eX9_skipSpaces {E : EV} {post : Option AV → AH → Prop} {h : AH} {l0 : Option Nat} (g : ∀ X : AX, Cb E X cX9_skipSpaces RX9 1 rmX9_skipSpaces → Cr E X none rmX9_skipSpaces "skipSpaces" post → Go E X 1 0 0 0 [(0, aP l0)] [] h) : sX9_skipSpaces E [aP l0] h post := Spec.of RX9 rfl rfl (Nat.le_of_ble_eq_true rfl) g
theorem dX9_current_0 : decode cX9_current 0 = .ok (.aload_n 0, 1) := by decide +kernel
theorem dX9_current_1 : decode cX9_current 1 = .ok (.getfield 19, 3) := by decide +kernel
theorem dX9_current_4 : decode cX9_current 4 = .ok (.ifCond .lt 30, 3) := by decide +kernel
theorem dX9_current_7 : decode cX9_current 7 = .ok (.aload_n 0, 1) := by decide +kernel
theorem dX9_current_8 : decode cX9_current 8 = .ok (.getfield 19, 3) := by decide +kernel
theorem dX9_current_11 : decode cX9_current 11 = .ok (.aload_n 0, 1) := by decide +kernel
theorem dX9_current_12 : decode cX9_current 12 = .ok (.getfield 15, 3) := by decide +kernel
theorem dX9_current_15 : decode cX9_current 15 = .ok (.if_icmp .ge 19, 3) := by decide +kernel
theorem dX9_current_18 : decode cX9_current 18 = .ok (.aload_n 0, 1) := by decide +kernel
theorem dX9_current_19 : decode cX9_current 19 = .ok (.getfield 19, 3) := by decide +kernel
theorem dX9_current_22 : decode cX9_current 22 = .ok (.aload_n 0, 1) := by decide +kernel
theorem dX9_current_23 : decode cX9_current 23 = .ok (.getfield 9, 3) := by decide +kernel
theorem dX9_current_26 : decode cX9_current 26 = .ok (.arraylength, 1) := by decide +kernel
theorem dX9_current_27 : decode cX9_current 27 = .ok (.if_icmp .ge 7, 3) := by decide +kernel
theorem dX9_current_30 : decode cX9_current 30 = .ok (.iconst 1, 1) := by decide +kernel
theorem dX9_current_31 : decode cX9_current 31 = .ok (.goto 4, 3) := by decide +kernel
theorem dX9_current_34 : decode cX9_current 34 = .ok (.iconst 0, 1) := by decide +kernel
theorem dX9_current_35 : decode cX9_current 35 = .ok (.istore_n 1, 1) := by decide +kernel
theorem dX9_current_36 : decode cX9_current 36 = .ok (.iload_n 1, 1) := by decide +kernel
theorem dX9_current_37 : decode cX9_current 37 = .ok (.ifCond .eq 15, 3) := by decide +kernel
theorem dX9_current_40 : decode cX9_current 40 = .ok (.aload_n 0, 1) := by decide +kernel
theorem dX9_current_41 : decode cX9_current 41 = .ok (.getfield 9, 3) := by decide +kernel
theorem dX9_current_44 : decode cX9_current 44 = .ok (.aload_n 0, 1) := by decide +kernel
theorem dX9_current_45 : decode cX9_current 45 = .ok (.getfield 19, 3) := by decide +kernel
theorem dX9_current_48 : decode cX9_current 48 = .ok (.iaload, 1) := by decide +kernel
theorem dX9_current_49 : decode cX9_current 49 = .ok (.goto 4, 3) := by decide +kernel
theorem dX9_current_52 : decode cX9_current 52 = .ok (.iconst (-1), 1) := by decide +kernel
theorem dX9_current_53 : decode cX9_current 53 = .ok (.ireturn, 1) := by decide +kernel
abbrev rmX9_current : Room := { frames := 0, cells := 0, slots := 0, locals := 0 }
abbrev sX9_current (E : EV) : List AV → AH → (Option AV → AH → Prop) → Prop := Spec E yX9_current cX9_current 2 (some .int) rmX9_current
theorem mX9_current : Mt yX9_current cX9_current 2 (some .int) 0 := ⟨k710, k3, by decide +kernel⟩
theorem vX9_current : MtV yX9_current 9 := ⟨k708, k709, by decide, (RX9, TX9, 4), rfl, rfl⟩
def PX9_current_35 (E : EV) (post : Option AV → AH → Prop) (h : AH) (l0 : Option Nat) (s0 : Int32) : Prop :=
  (s0 = 0 → post (some (aI (-1 : Int32))) h) ∧ (¬ s0 = 0 → rdP h l0 9 0 fun x2 => rdI h l0 9 2 fun x3 => aldI h x2 0 x3 fun x4 => post (some (aI x4)) h)
theorem bX9_current_35 {E : EV} {X : AX} {post : Option AV → AH → Prop} (C : Cb E X cX9_current RX9 2 rmX9_current) (D : Cr E X (some .int) rmX9_current "current" post) {h : AH} {l0 : Option Nat} {s0 : Int32} (w : PX9_current_35 E post h l0 s0) : Go E X 2 0 0 35 [(0, aP l0)] [aI s0] h := by
  unfold PX9_current_35 at w
  refine r_istore_n C dX9_current_35 rfl (by decide) rfl ?_
  refine r_iload_n C dX9_current_36 rfl 0 rfl ?_
  refine r_if_eq C dX9_current_37 (tgt := 52) rfl (fun hc => ?_) (fun hc => ?_)
  · have w := w.1 hc
    refine r_iconst (v := -1) C dX9_current_52 rfl ?_
    exact r_iret C D rfl (Nat.zero_le _) (Nat.zero_le _) dX9_current_53 w
  · have w := w.2 hc
    refine r_aload_n C dX9_current_40 rfl 1 rfl ?_
    refine r_getP C fcX9 (f := 0) (by decide) rfl k73 dX9_current_41 (w.mono fun x2 w => ?_)
    refine r_aload_n C dX9_current_44 rfl 1 rfl ?_
    refine r_getI C fcX9 (f := 2) (by decide) rfl k78 dX9_current_45 (w.mono fun x3 w => ?_)
    refine r_iald C dX9_current_48 (w.mono fun x4 w => ?_)
    refine r_goto C dX9_current_49 (tgt := 53) rfl ?_
    exact r_iret C D rfl (Nat.zero_le _) (Nat.zero_le _) dX9_current_53 w
def PX9_current_34 (E : EV) (post : Option AV → AH → Prop) (h : AH) (l0 : Option Nat) : Prop :=
  PX9_current_35 E post h l0 (0 : Int32)
theorem bX9_current_34 {E : EV} {X : AX} {post : Option AV → AH → Prop} (C : Cb E X cX9_current RX9 2 rmX9_current) (D : Cr E X (some .int) rmX9_current "current" post) {h : AH} {l0 : Option Nat} (w : PX9_current_34 E post h l0) : Go E X 2 0 0 34 [(0, aP l0)] [] h := by
  unfold PX9_current_34 at w
  refine r_iconst (v := 0) C dX9_current_34 rfl ?_
  exact (bX9_current_35 C D w)
def PX9_current_0 (E : EV) (post : Option AV → AH → Prop) (h : AH) (l0 : Option Nat) : Prop :=
  rdI h l0 9 2 fun x1 => (x1 < 0 → PX9_current_34 E post h l0) ∧ (¬ x1 < 0 → rdI h l0 9 2 fun x2 => rdI h l0 9 1 fun x3 => (x3 ≤ x2 → PX9_current_34 E post h l0) ∧ (¬ x3 ≤ x2 → rdI h l0 9 2 fun x4 => rdP h l0 9 0 fun x5 => alenI h x5 0 fun x6 => (x6 ≤ x4 → PX9_current_34 E post h l0) ∧ (¬ x6 ≤ x4 → PX9_current_35 E post h l0 (1 : Int32))))
theorem bX9_current_0 {E : EV} {X : AX} {post : Option AV → AH → Prop} (C : Cb E X cX9_current RX9 2 rmX9_current) (D : Cr E X (some .int) rmX9_current "current" post) {h : AH} {l0 : Option Nat} (w : PX9_current_0 E post h l0) : Go E X 2 0 0 0 [(0, aP l0)] [] h := by
  unfold PX9_current_0 at w
  refine r_aload_n C dX9_current_0 rfl 0 rfl ?_
  refine r_getI C fcX9 (f := 2) (by decide) rfl k78 dX9_current_1 (w.mono fun x1 w => ?_)
  refine r_if_lt C dX9_current_4 (tgt := 34) rfl (fun hc => ?_) (fun hc => ?_)
  · have w := w.1 hc
    exact (bX9_current_34 C D w)
  · have w := w.2 hc
    refine r_aload_n C dX9_current_7 rfl 0 rfl ?_
    refine r_getI C fcX9 (f := 2) (by decide) rfl k78 dX9_current_8 (w.mono fun x2 w => ?_)
    refine r_aload_n C dX9_current_11 rfl 0 rfl ?_
    refine r_getI C fcX9 (f := 1) (by decide) rfl k74 dX9_current_12 (w.mono fun x3 w => ?_)
    refine r_icmp_ge C dX9_current_15 (tgt := 34) rfl (fun hc => ?_) (fun hc => ?_)
    · have w := w.1 hc
      exact (bX9_current_34 C D w)
    · have w := w.2 hc
      refine r_aload_n C dX9_current_18 rfl 0 rfl ?_
      refine r_getI C fcX9 (f := 2) (by decide) rfl k78 dX9_current_19 (w.mono fun x4 w => ?_)
      refine r_aload_n C dX9_current_22 rfl 0 rfl ?_
      refine r_getP C fcX9 (f := 0) (by decide) rfl k73 dX9_current_23 (w.mono fun x5 w => ?_)
      refine r_alenI 0 0 rfl C dX9_current_26 (w.mono fun x6 w => ?_)
      refine r_icmp_ge C dX9_current_27 (tgt := 34) rfl (fun hc => ?_) (fun hc => ?_)
      · have w := w.1 hc
        exact (bX9_current_34 C D w)
      · have w := w.2 hc
        refine r_iconst (v := 1) C dX9_current_30 rfl ?_
        refine r_goto C dX9_current_31 (tgt := 35) rfl ?_
        exact (bX9_current_35 C D w)
theorem eX9_current {E : EV} {post : Option AV → AH → Prop} {h : AH} {l0 : Option Nat} (w : PX9_current_0 E post h l0) : sX9_current E [aP l0] h post := Spec.of RX9 rfl rfl (Nat.le_of_ble_eq_true rfl) fun X C D => bX9_current_0 C D w
theorem dX9_isAtEnd_0 : decode cX9_isAtEnd 0 = .ok (.aload_n 0, 1) := by decide +kernel
theorem dX9_isAtEnd_1 : decode cX9_isAtEnd 1 = .ok (.invokevirtual 22, 3) := by decide +kernel
theorem dX9_isAtEnd_4 : decode cX9_isAtEnd 4 = .ok (.aload_n 0, 1) := by decide +kernel
theorem dX9_isAtEnd_5 : decode cX9_isAtEnd 5 = .ok (.invokevirtual 25, 3) := by decide +kernel
theorem dX9_isAtEnd_8 : decode cX9_isAtEnd 8 = .ok (.iconst (-1), 1) := by decide +kernel
theorem dX9_isAtEnd_9 : decode cX9_isAtEnd 9 = .ok (.if_icmp .ne 7, 3) := by decide +kernel
theorem dX9_isAtEnd_12 : decode cX9_isAtEnd 12 = .ok (.iconst 1, 1) := by decide +kernel
theorem dX9_isAtEnd_13 : decode cX9_isAtEnd 13 = .ok (.goto 4, 3) := by decide +kernel
theorem dX9_isAtEnd_16 : decode cX9_isAtEnd 16 = .ok (.iconst 0, 1) := by decide +kernel
theorem dX9_isAtEnd_17 : decode cX9_isAtEnd 17 = .ok (.ireturn, 1) := by decide +kernel
abbrev rmX9_isAtEnd : Room := { frames := 1, cells := 0, slots := 0, locals := 40 }
abbrev sX9_isAtEnd (E : EV) : List AV → AH → (Option AV → AH → Prop) → Prop := Spec E yX9_isAtEnd cX9_isAtEnd 1 (some .boolean) rmX9_isAtEnd
theorem mX9_isAtEnd : Mt yX9_isAtEnd cX9_isAtEnd 1 (some .boolean) 0 := ⟨k702, k3, by decide +kernel⟩
theorem vX9_isAtEnd : MtV yX9_isAtEnd 9 := ⟨k700, k701, by decide, (RX9, TX9, 4), rfl, rfl⟩
def PX9_isAtEnd_0 (E : EV) (post : Option AV → AH → Prop) (h : AH) (l0 : Option Nat) : Prop :=
  CV (sX9_skipSpaces E) l0 9 [] h (kV fun h2 => CV (sX9_current E) l0 9 [] h2 (kI fun x3 h4 => (¬ x3 = (-1 : Int32) → post (some (aI (0 : Int32))) h4) ∧ (x3 = (-1 : Int32) → post (some (aI (1 : Int32))) h4)))
theorem bX9_isAtEnd_0 {E : EV} {X : AX} {post : Option AV → AH → Prop} (C : Cb E X cX9_isAtEnd RX9 1 rmX9_isAtEnd) (D : Cr E X (some .boolean) rmX9_isAtEnd "isAtEnd" post) {h : AH} {l0 : Option Nat} (w : PX9_isAtEnd_0 E post h l0) : Go E X 1 0 0 0 [(0, aP l0)] [] h := by
  unfold PX9_isAtEnd_0 at w
  refine r_aload_n C dX9_isAtEnd_0 rfl 0 rfl ?_
  refine r_cvV (rm' := rmX9_skipSpaces) C mX9_skipSpaces vX9_skipSpaces k703 [] [] rfl rfl (Nat.le_of_ble_eq_true rfl) (by decide) ⟨Nat.zero_le _, Nat.zero_le _⟩ 0 0 rfl rfl dX9_isAtEnd_1 w (fun h2 w => ?_)
  refine r_aload_n C dX9_isAtEnd_4 rfl 0 rfl ?_
  refine r_cvI (rm' := rmX9_current) C mX9_current vX9_current k707 [] [] rfl rfl (Nat.le_of_ble_eq_true rfl) (by decide) ⟨Nat.zero_le _, Nat.zero_le _⟩ 0 0 rfl rfl dX9_isAtEnd_5 w (fun x3 h4 w => ?_)
  refine r_iconst (v := -1) C dX9_isAtEnd_8 rfl ?_
  refine r_icmp_ne C dX9_isAtEnd_9 (tgt := 16) rfl (fun hc => ?_) (fun hc => ?_)
  · have w := w.1 hc
    refine r_iconst (v := 0) C dX9_isAtEnd_16 rfl ?_
    exact r_zret C D rfl (Or.inl rfl) (Nat.zero_le _) (Nat.zero_le _) dX9_isAtEnd_17 w
  · have w := w.2 hc
    refine r_iconst (v := 1) C dX9_isAtEnd_12 rfl ?_
    refine r_goto C dX9_isAtEnd_13 (tgt := 17) rfl ?_
    exact r_zret C D rfl (Or.inr rfl) (Nat.zero_le _) (Nat.zero_le _) dX9_isAtEnd_17 w
theorem eX9_isAtEnd {E : EV} {post : Option AV → AH → Prop} {h : AH} {l0 : Option Nat} (w : PX9_isAtEnd_0 E post h l0) : sX9_isAtEnd E [aP l0] h post := Spec.of RX9 rfl rfl (Nat.le_of_ble_eq_true rfl) fun X C D => bX9_isAtEnd_0 C D w
theorem dX9_accept_0 : decode cX9_accept 0 = .ok (.aload_n 0, 1) := by decide +kernel
theorem dX9_accept_1 : decode cX9_accept 1 = .ok (.invokevirtual 22, 3) := by decide +kernel
theorem dX9_accept_4 : decode cX9_accept 4 = .ok (.aload_n 0, 1) := by decide +kernel
theorem dX9_accept_5 : decode cX9_accept 5 = .ok (.invokevirtual 25, 3) := by decide +kernel
theorem dX9_accept_8 : decode cX9_accept 8 = .ok (.iload_n 1, 1) := by decide +kernel
theorem dX9_accept_9 : decode cX9_accept 9 = .ok (.if_icmp .ne 7, 3) := by decide +kernel
theorem dX9_accept_12 : decode cX9_accept 12 = .ok (.iconst 1, 1) := by decide +kernel
theorem dX9_accept_13 : decode cX9_accept 13 = .ok (.goto 4, 3) := by decide +kernel
theorem dX9_accept_16 : decode cX9_accept 16 = .ok (.iconst 0, 1) := by decide +kernel
theorem dX9_accept_17 : decode cX9_accept 17 = .ok (.istore_n 2, 1) := by decide +kernel
theorem dX9_accept_18 : decode cX9_accept 18 = .ok (.iload_n 2, 1) := by decide +kernel
theorem dX9_accept_19 : decode cX9_accept 19 = .ok (.ifCond .eq 13, 3) := by decide +kernel
theorem dX9_accept_22 : decode cX9_accept 22 = .ok (.aload_n 0, 1) := by decide +kernel
theorem dX9_accept_23 : decode cX9_accept 23 = .ok (.dup, 1) := by decide +kernel
theorem dX9_accept_24 : decode cX9_accept 24 = .ok (.getfield 19, 3) := by decide +kernel
theorem dX9_accept_27 : decode cX9_accept 27 = .ok (.iconst 1, 1) := by decide +kernel
theorem dX9_accept_28 : decode cX9_accept 28 = .ok (.iadd, 1) := by decide +kernel
theorem dX9_accept_29 : decode cX9_accept 29 = .ok (.putfield 19, 3) := by decide +kernel
theorem dX9_accept_32 : decode cX9_accept 32 = .ok (.iload_n 2, 1) := by decide +kernel
theorem dX9_accept_33 : decode cX9_accept 33 = .ok (.ireturn, 1) := by decide +kernel
abbrev rmX9_accept : Room := { frames := 1, cells := 0, slots := 0, locals := 40 }
abbrev sX9_accept (E : EV) : List AV → AH → (Option AV → AH → Prop) → Prop := Spec E yX9_accept cX9_accept 3 (some .boolean) rmX9_accept
theorem mX9_accept : Mt yX9_accept cX9_accept 3 (some .boolean) 1 := ⟨k731, k3, by decide +kernel⟩
theorem vX9_accept : MtV yX9_accept 9 := ⟨k729, k730, by decide, (RX9, TX9, 4), rfl, rfl⟩
def PX9_accept_17 (E : EV) (post : Option AV → AH → Prop) (h : AH) (l0 : Option Nat) (s0 : Int32) : Prop :=
  (s0 = 0 → (s0 = 0 ∨ s0 = 1) ∧ post (some (aI s0)) h) ∧ (¬ s0 = 0 → rdI h l0 9 2 fun x2 => wr h l0 9 2 (aI (x2 + (1 : Int32))) fun h3 => (s0 = 0 ∨ s0 = 1) ∧ post (some (aI s0)) h3)
theorem bX9_accept_17 {E : EV} {X : AX} {post : Option AV → AH → Prop} (C : Cb E X cX9_accept RX9 3 rmX9_accept) (D : Cr E X (some .boolean) rmX9_accept "accept" post) {h : AH} {l0 : Option Nat} {s0 : Int32} (w : PX9_accept_17 E post h l0 s0) : Go E X 3 0 0 17 [(0, aP l0)] [aI s0] h := by
  unfold PX9_accept_17 at w
  refine r_istore_n C dX9_accept_17 rfl (by decide) rfl ?_
  refine r_iload_n C dX9_accept_18 rfl 0 rfl ?_
  refine r_if_eq C dX9_accept_19 (tgt := 32) rfl (fun hc => ?_) (fun hc => ?_)
  · have w := w.1 hc
    refine r_iload_n C dX9_accept_32 rfl 0 rfl ?_
    exact r_zret C D rfl w.1 (Nat.zero_le _) (Nat.zero_le _) dX9_accept_33 w.2
  · have w := w.2 hc
    refine r_aload_n C dX9_accept_22 rfl 1 rfl ?_
    refine r_dup C dX9_accept_23 rfl ?_
    refine r_getI C fcX9 (f := 2) (by decide) rfl k78 dX9_accept_24 (w.mono fun x2 w => ?_)
    refine r_iconst (v := 1) C dX9_accept_27 rfl ?_
    refine r_iadd C dX9_accept_28 ?_
    refine r_put C fcX9 (f := 2) (by decide) rfl rfl rfl rfl k78 dX9_accept_29 (w.mono fun h3 w => ?_)
    refine r_iload_n C dX9_accept_32 rfl 0 rfl ?_
    exact r_zret C D rfl w.1 (Nat.zero_le _) (Nat.zero_le _) dX9_accept_33 w.2
def PX9_accept_0 (E : EV) (post : Option AV → AH → Prop) (h : AH) (l0 : Option Nat) (l1 : Int32) : Prop :=
  CV (sX9_skipSpaces E) l0 9 [] h (kV fun h2 => CV (sX9_current E) l0 9 [] h2 (kI fun x3 h4 => (¬ x3 = l1 → PX9_accept_17 E post h4 l0 (0 : Int32)) ∧ (x3 = l1 → PX9_accept_17 E post h4 l0 (1 : Int32))))
theorem bX9_accept_0 {E : EV} {X : AX} {post : Option AV → AH → Prop} (C : Cb E X cX9_accept RX9 3 rmX9_accept) (D : Cr E X (some .boolean) rmX9_accept "accept" post) {h : AH} {l0 : Option Nat} {l1 : Int32} (w : PX9_accept_0 E post h l0 l1) : Go E X 3 0 0 0 [(0, aP l0), (1, aI l1)] [] h := by
  unfold PX9_accept_0 at w
  refine r_aload_n C dX9_accept_0 rfl 0 rfl ?_
  refine r_cvV (rm' := rmX9_skipSpaces) C mX9_skipSpaces vX9_skipSpaces k703 [] [] rfl rfl (Nat.le_of_ble_eq_true rfl) (by decide) ⟨Nat.zero_le _, Nat.zero_le _⟩ 0 0 rfl rfl dX9_accept_1 w (fun h2 w => ?_)
  refine r_aload_n C dX9_accept_4 rfl 0 rfl ?_
  refine r_cvI (rm' := rmX9_current) C mX9_current vX9_current k707 [] [] rfl rfl (Nat.le_of_ble_eq_true rfl) (by decide) ⟨Nat.zero_le _, Nat.zero_le _⟩ 0 0 rfl rfl dX9_accept_5 w (fun x3 h4 w => ?_)
  refine r_iload_n C dX9_accept_8 rfl 1 rfl ?_
  refine r_icmp_ne C dX9_accept_9 (tgt := 16) rfl (fun hc => ?_) (fun hc => ?_)
  · have w := w.1 hc
    refine r_iconst (v := 0) C dX9_accept_16 rfl ?_
    exact r_sub [0] rfl (bX9_accept_17 C D w)
  · have w := w.2 hc
    refine r_iconst (v := 1) C dX9_accept_12 rfl ?_
    refine r_goto C dX9_accept_13 (tgt := 17) rfl ?_
    exact r_sub [0] rfl (bX9_accept_17 C D w)
theorem eX9_accept {E : EV} {post : Option AV → AH → Prop} {h : AH} {l0 : Option Nat} {l1 : Int32} (w : PX9_accept_0 E post h l0 l1) : sX9_accept E [aP l0, aI l1] h post := Spec.of RX9 rfl rfl (Nat.le_of_ble_eq_true rfl) fun X C D => bX9_accept_0 C D w
theorem dX9_takeDigit_0 : decode cX9_takeDigit 0 = .ok (.aload_n 0, 1) := by decide +kernel
theorem dX9_takeDigit_1 : decode cX9_takeDigit 1 = .ok (.invokevirtual 25, 3) := by decide +kernel
theorem dX9_takeDigit_4 : decode cX9_takeDigit 4 = .ok (.istore_n 1, 1) := by decide +kernel
theorem dX9_takeDigit_5 : decode cX9_takeDigit 5 = .ok (.iload_n 1, 1) := by decide +kernel
theorem dX9_takeDigit_6 : decode cX9_takeDigit 6 = .ok (.bipush 48, 2) := by decide +kernel
theorem dX9_takeDigit_8 : decode cX9_takeDigit 8 = .ok (.if_icmp .lt 9, 3) := by decide +kernel
theorem dX9_takeDigit_11 : decode cX9_takeDigit 11 = .ok (.iload_n 1, 1) := by decide +kernel
theorem dX9_takeDigit_12 : decode cX9_takeDigit 12 = .ok (.bipush 57, 2) := by decide +kernel
theorem dX9_takeDigit_14 : decode cX9_takeDigit 14 = .ok (.if_icmp .le 5, 3) := by decide +kernel
theorem dX9_takeDigit_17 : decode cX9_takeDigit 17 = .ok (.iconst (-1), 1) := by decide +kernel
theorem dX9_takeDigit_18 : decode cX9_takeDigit 18 = .ok (.ireturn, 1) := by decide +kernel
theorem dX9_takeDigit_19 : decode cX9_takeDigit 19 = .ok (.aload_n 0, 1) := by decide +kernel
theorem dX9_takeDigit_20 : decode cX9_takeDigit 20 = .ok (.dup, 1) := by decide +kernel
theorem dX9_takeDigit_21 : decode cX9_takeDigit 21 = .ok (.getfield 19, 3) := by decide +kernel
theorem dX9_takeDigit_24 : decode cX9_takeDigit 24 = .ok (.iconst 1, 1) := by decide +kernel
theorem dX9_takeDigit_25 : decode cX9_takeDigit 25 = .ok (.iadd, 1) := by decide +kernel
theorem dX9_takeDigit_26 : decode cX9_takeDigit 26 = .ok (.putfield 19, 3) := by decide +kernel
theorem dX9_takeDigit_29 : decode cX9_takeDigit 29 = .ok (.iload_n 1, 1) := by decide +kernel
theorem dX9_takeDigit_30 : decode cX9_takeDigit 30 = .ok (.bipush 48, 2) := by decide +kernel
theorem dX9_takeDigit_32 : decode cX9_takeDigit 32 = .ok (.isub, 1) := by decide +kernel
theorem dX9_takeDigit_33 : decode cX9_takeDigit 33 = .ok (.ireturn, 1) := by decide +kernel
abbrev rmX9_takeDigit : Room := { frames := 1, cells := 0, slots := 0, locals := 40 }
abbrev sX9_takeDigit (E : EV) : List AV → AH → (Option AV → AH → Prop) → Prop := Spec E yX9_takeDigit cX9_takeDigit 2 (some .int) rmX9_takeDigit
theorem mX9_takeDigit : Mt yX9_takeDigit cX9_takeDigit 2 (some .int) 0 := ⟨k735, k3, by decide +kernel⟩
theorem vX9_takeDigit : MtV yX9_takeDigit 9 := ⟨k733, k734, by decide, (RX9, TX9, 4), rfl, rfl⟩
def PX9_takeDigit_0 (E : EV) (post : Option AV → AH → Prop) (h : AH) (l0 : Option Nat) : Prop :=
  CV (sX9_current E) l0 9 [] h (kI fun x1 h2 => (x1 < (48 : Int32) → post (some (aI (-1 : Int32))) h2) ∧ (¬ x1 < (48 : Int32) → (x1 ≤ (57 : Int32) → rdI h2 l0 9 2 fun x4 => wr h2 l0 9 2 (aI (x4 + (1 : Int32))) fun h5 => post (some (aI (x1 - (48 : Int32)))) h5) ∧ (¬ x1 ≤ (57 : Int32) → post (some (aI (-1 : Int32))) h2)))
theorem bX9_takeDigit_0 {E : EV} {X : AX} {post : Option AV → AH → Prop} (C : Cb E X cX9_takeDigit RX9 2 rmX9_takeDigit) (D : Cr E X (some .int) rmX9_takeDigit "takeDigit" post) {h : AH} {l0 : Option Nat} (w : PX9_takeDigit_0 E post h l0) : Go E X 2 0 0 0 [(0, aP l0)] [] h := by
  unfold PX9_takeDigit_0 at w
  refine r_aload_n C dX9_takeDigit_0 rfl 0 rfl ?_
  refine r_cvI (rm' := rmX9_current) C mX9_current vX9_current k707 [] [] rfl rfl (Nat.le_of_ble_eq_true rfl) (by decide) ⟨Nat.zero_le _, Nat.zero_le _⟩ 0 0 rfl rfl dX9_takeDigit_1 w (fun x1 h2 w => ?_)
  refine r_istore_n C dX9_takeDigit_4 rfl (by decide) rfl ?_
  refine r_iload_n C dX9_takeDigit_5 rfl 0 rfl ?_
  refine r_bipush (v := 48) C dX9_takeDigit_6 rfl ?_
  refine r_icmp_lt C dX9_takeDigit_8 (tgt := 17) rfl (fun hc => ?_) (fun hc => ?_)
  · have w := w.1 hc
    refine r_iconst (v := -1) C dX9_takeDigit_17 rfl ?_
    exact r_iret C D rfl (Nat.zero_le _) (Nat.zero_le _) dX9_takeDigit_18 w
  · have w := w.2 hc
    refine r_iload_n C dX9_takeDigit_11 rfl 0 rfl ?_
    refine r_bipush (v := 57) C dX9_takeDigit_12 rfl ?_
    refine r_icmp_le C dX9_takeDigit_14 (tgt := 19) rfl (fun hc => ?_) (fun hc => ?_)
    · have w := w.1 hc
      refine r_aload_n C dX9_takeDigit_19 rfl 1 rfl ?_
      refine r_dup C dX9_takeDigit_20 rfl ?_
      refine r_getI C fcX9 (f := 2) (by decide) rfl k78 dX9_takeDigit_21 (w.mono fun x4 w => ?_)
      refine r_iconst (v := 1) C dX9_takeDigit_24 rfl ?_
      refine r_iadd C dX9_takeDigit_25 ?_
      refine r_put C fcX9 (f := 2) (by decide) rfl rfl rfl rfl k78 dX9_takeDigit_26 (w.mono fun h5 w => ?_)
      refine r_iload_n C dX9_takeDigit_29 rfl 0 rfl ?_
      refine r_bipush (v := 48) C dX9_takeDigit_30 rfl ?_
      refine r_isub C dX9_takeDigit_32 ?_
      exact r_iret C D rfl (Nat.zero_le _) (Nat.zero_le _) dX9_takeDigit_33 w
    · have w := w.2 hc
      refine r_iconst (v := -1) C dX9_takeDigit_17 rfl ?_
      exact r_iret C D rfl (Nat.zero_le _) (Nat.zero_le _) dX9_takeDigit_18 w
theorem eX9_takeDigit {E : EV} {post : Option AV → AH → Prop} {h : AH} {l0 : Option Nat} (w : PX9_takeDigit_0 E post h l0) : sX9_takeDigit E [aP l0] h post := Spec.of RX9 rfl rfl (Nat.le_of_ble_eq_true rfl) fun X C D => bX9_takeDigit_0 C D w
theorem dX9_readPlace_0 : decode cX9_readPlace 0 = .ok (.aload_n 0, 1) := by decide +kernel
theorem dX9_readPlace_1 : decode cX9_readPlace 1 = .ok (.bipush 45, 2) := by decide +kernel
theorem dX9_readPlace_3 : decode cX9_readPlace 3 = .ok (.invokevirtual 29, 3) := by decide +kernel
theorem dX9_readPlace_6 : decode cX9_readPlace 6 = .ok (.ifCond .eq 7, 3) := by decide +kernel
theorem dX9_readPlace_9 : decode cX9_readPlace 9 = .ok (.iconst (-1), 1) := by decide +kernel
theorem dX9_readPlace_10 : decode cX9_readPlace 10 = .ok (.goto 4, 3) := by decide +kernel
theorem dX9_readPlace_13 : decode cX9_readPlace 13 = .ok (.iconst 1, 1) := by decide +kernel
theorem dX9_readPlace_14 : decode cX9_readPlace 14 = .ok (.istore_n 1, 1) := by decide +kernel
theorem dX9_readPlace_15 : decode cX9_readPlace 15 = .ok (.aload_n 0, 1) := by decide +kernel
theorem dX9_readPlace_16 : decode cX9_readPlace 16 = .ok (.invokevirtual 33, 3) := by decide +kernel
theorem dX9_readPlace_19 : decode cX9_readPlace 19 = .ok (.istore_n 2, 1) := by decide +kernel
theorem dX9_readPlace_20 : decode cX9_readPlace 20 = .ok (.iload_n 2, 1) := by decide +kernel
theorem dX9_readPlace_21 : decode cX9_readPlace 21 = .ok (.ifCond .ge 5, 3) := by decide +kernel
theorem dX9_readPlace_24 : decode cX9_readPlace 24 = .ok (.iconst 0, 1) := by decide +kernel
theorem dX9_readPlace_25 : decode cX9_readPlace 25 = .ok (.ireturn, 1) := by decide +kernel
theorem dX9_readPlace_26 : decode cX9_readPlace 26 = .ok (.iload_n 2, 1) := by decide +kernel
theorem dX9_readPlace_27 : decode cX9_readPlace 27 = .ok (.ifCond .le 23, 3) := by decide +kernel
theorem dX9_readPlace_30 : decode cX9_readPlace 30 = .ok (.aload_n 0, 1) := by decide +kernel
theorem dX9_readPlace_31 : decode cX9_readPlace 31 = .ok (.invokevirtual 33, 3) := by decide +kernel
theorem dX9_readPlace_34 : decode cX9_readPlace 34 = .ok (.istore_n 3, 1) := by decide +kernel
theorem dX9_readPlace_35 : decode cX9_readPlace 35 = .ok (.iload_n 3, 1) := by decide +kernel
theorem dX9_readPlace_36 : decode cX9_readPlace 36 = .ok (.ifCond .ge 7, 3) := by decide +kernel
theorem dX9_readPlace_39 : decode cX9_readPlace 39 = .ok (.iload_n 2, 1) := by decide +kernel
theorem dX9_readPlace_40 : decode cX9_readPlace 40 = .ok (.goto 9, 3) := by decide +kernel
theorem dX9_readPlace_43 : decode cX9_readPlace 43 = .ok (.bipush 10, 2) := by decide +kernel
theorem dX9_readPlace_45 : decode cX9_readPlace 45 = .ok (.iload_n 2, 1) := by decide +kernel
theorem dX9_readPlace_46 : decode cX9_readPlace 46 = .ok (.imul, 1) := by decide +kernel
theorem dX9_readPlace_47 : decode cX9_readPlace 47 = .ok (.iload_n 3, 1) := by decide +kernel
theorem dX9_readPlace_48 : decode cX9_readPlace 48 = .ok (.iadd, 1) := by decide +kernel
theorem dX9_readPlace_49 : decode cX9_readPlace 49 = .ok (.istore_n 2, 1) := by decide +kernel
theorem dX9_readPlace_50 : decode cX9_readPlace 50 = .ok (.aload_n 0, 1) := by decide +kernel
theorem dX9_readPlace_51 : decode cX9_readPlace 51 = .ok (.iload_n 1, 1) := by decide +kernel
theorem dX9_readPlace_52 : decode cX9_readPlace 52 = .ok (.iload_n 2, 1) := by decide +kernel
theorem dX9_readPlace_53 : decode cX9_readPlace 53 = .ok (.imul, 1) := by decide +kernel
theorem dX9_readPlace_54 : decode cX9_readPlace 54 = .ok (.putfield 36, 3) := by decide +kernel
theorem dX9_readPlace_57 : decode cX9_readPlace 57 = .ok (.iconst 1, 1) := by decide +kernel
theorem dX9_readPlace_58 : decode cX9_readPlace 58 = .ok (.ireturn, 1) := by decide +kernel
abbrev rmX9_readPlace : Room := { frames := 2, cells := 0, slots := 0, locals := 80 }
abbrev sX9_readPlace (E : EV) : List AV → AH → (Option AV → AH → Prop) → Prop := Spec E yX9_readPlace cX9_readPlace 4 (some .boolean) rmX9_readPlace
theorem mX9_readPlace : Mt yX9_readPlace cX9_readPlace 4 (some .boolean) 0 := ⟨k872, k3, by decide +kernel⟩
theorem vX9_readPlace : MtV yX9_readPlace 9 := ⟨k870, k871, by decide, (RX9, TX9, 4), rfl, rfl⟩
def PX9_readPlace_50 (E : EV) (post : Option AV → AH → Prop) (h : AH) (l0 : Option Nat) (l1 : Int32) (l2 : Int32) : Prop :=
  wr h l0 9 3 (aI (l1 * l2)) fun h1 => post (some (aI (1 : Int32))) h1
theorem bX9_readPlace_50 {E : EV} {X : AX} {post : Option AV → AH → Prop} (C : Cb E X cX9_readPlace RX9 4 rmX9_readPlace) (D : Cr E X (some .boolean) rmX9_readPlace "readPlace" post) {h : AH} {l0 : Option Nat} {l1 : Int32} {l2 : Int32} (w : PX9_readPlace_50 E post h l0 l1 l2) : Go E X 4 0 0 50 [(0, aP l0), (1, aI l1), (2, aI l2)] [] h := by
  unfold PX9_readPlace_50 at w
  refine r_aload_n C dX9_readPlace_50 rfl 0 rfl ?_
  refine r_iload_n C dX9_readPlace_51 rfl 1 rfl ?_
  refine r_iload_n C dX9_readPlace_52 rfl 2 rfl ?_
  refine r_imul C dX9_readPlace_53 ?_
  refine r_put C fcX9 (f := 3) (by decide) rfl rfl rfl rfl k82 dX9_readPlace_54 (w.mono fun h1 w => ?_)
  refine r_iconst (v := 1) C dX9_readPlace_57 rfl ?_
  exact r_zret C D rfl (Or.inr rfl) (Nat.zero_le _) (Nat.zero_le _) dX9_readPlace_58 w
def PX9_readPlace_49 (E : EV) (post : Option AV → AH → Prop) (h : AH) (l0 : Option Nat) (l1 : Int32) (s0 : Int32) : Prop :=
  PX9_readPlace_50 E post h l0 l1 s0
theorem bX9_readPlace_49 {E : EV} {X : AX} {post : Option AV → AH → Prop} (C : Cb E X cX9_readPlace RX9 4 rmX9_readPlace) (D : Cr E X (some .boolean) rmX9_readPlace "readPlace" post) {h : AH} {l0 : Option Nat} {l1 : Int32} {s0 : Int32} (w : PX9_readPlace_49 E post h l0 l1 s0) : Go E X 4 0 0 49 [(0, aP l0), (1, aI l1)] [aI s0] h := by
  unfold PX9_readPlace_49 at w
  refine r_istore_n C dX9_readPlace_49 rfl (by decide) rfl ?_
  exact r_sub [1, 2, 0] rfl (bX9_readPlace_50 C D w)
def PX9_readPlace_14 (E : EV) (post : Option AV → AH → Prop) (h : AH) (l0 : Option Nat) (s0 : Int32) : Prop :=
  CV (sX9_takeDigit E) l0 9 [] h (kI fun x2 h3 => (0 ≤ x2 → (x2 ≤ 0 → PX9_readPlace_50 E post h3 l0 s0 x2) ∧ (¬ x2 ≤ 0 → CV (sX9_takeDigit E) l0 9 [] h3 (kI fun x5 h6 => (0 ≤ x5 → PX9_readPlace_49 E post h6 l0 s0 (((10 : Int32) * x2) + x5)) ∧ (¬ 0 ≤ x5 → PX9_readPlace_49 E post h6 l0 s0 x2)))) ∧ (¬ 0 ≤ x2 → post (some (aI (0 : Int32))) h3))
theorem bX9_readPlace_14 {E : EV} {X : AX} {post : Option AV → AH → Prop} (C : Cb E X cX9_readPlace RX9 4 rmX9_readPlace) (D : Cr E X (some .boolean) rmX9_readPlace "readPlace" post) {h : AH} {l0 : Option Nat} {s0 : Int32} (w : PX9_readPlace_14 E post h l0 s0) : Go E X 4 0 0 14 [(0, aP l0)] [aI s0] h := by
  unfold PX9_readPlace_14 at w
  refine r_istore_n C dX9_readPlace_14 rfl (by decide) rfl ?_
  refine r_aload_n C dX9_readPlace_15 rfl 1 rfl ?_
  refine r_cvI (rm' := rmX9_takeDigit) C mX9_takeDigit vX9_takeDigit k732 [] [] rfl rfl (Nat.le_of_ble_eq_true rfl) (by decide) ⟨Nat.zero_le _, Nat.zero_le _⟩ 0 0 rfl rfl dX9_readPlace_16 w (fun x2 h3 w => ?_)
  refine r_istore_n C dX9_readPlace_19 rfl (by decide) rfl ?_
  refine r_iload_n C dX9_readPlace_20 rfl 0 rfl ?_
  refine r_if_ge C dX9_readPlace_21 (tgt := 26) rfl (fun hc => ?_) (fun hc => ?_)
  · have w := w.1 hc
    refine r_iload_n C dX9_readPlace_26 rfl 0 rfl ?_
    refine r_if_le C dX9_readPlace_27 (tgt := 50) rfl (fun hc => ?_) (fun hc => ?_)
    · have w := w.1 hc
      exact r_sub [2, 1, 0] rfl (bX9_readPlace_50 C D w)
    · have w := w.2 hc
      refine r_aload_n C dX9_readPlace_30 rfl 2 rfl ?_
      refine r_cvI (rm' := rmX9_takeDigit) C mX9_takeDigit vX9_takeDigit k732 [] [] rfl rfl (Nat.le_of_ble_eq_true rfl) (by decide) ⟨Nat.zero_le _, Nat.zero_le _⟩ 0 0 rfl rfl dX9_readPlace_31 w (fun x5 h6 w => ?_)
      refine r_istore_n C dX9_readPlace_34 rfl (by decide) rfl ?_
      refine r_iload_n C dX9_readPlace_35 rfl 0 rfl ?_
      refine r_if_ge C dX9_readPlace_36 (tgt := 43) rfl (fun hc => ?_) (fun hc => ?_)
      · have w := w.1 hc
        refine r_bipush (v := 10) C dX9_readPlace_43 rfl ?_
        refine r_iload_n C dX9_readPlace_45 rfl 1 rfl ?_
        refine r_imul C dX9_readPlace_46 ?_
        refine r_iload_n C dX9_readPlace_47 rfl 0 rfl ?_
        refine r_iadd C dX9_readPlace_48 ?_
        exact r_sub [3, 2] rfl (bX9_readPlace_49 C D w)
      · have w := w.2 hc
        refine r_iload_n C dX9_readPlace_39 rfl 1 rfl ?_
        refine r_goto C dX9_readPlace_40 (tgt := 49) rfl ?_
        exact r_sub [3, 2] rfl (bX9_readPlace_49 C D w)
  · have w := w.2 hc
    refine r_iconst (v := 0) C dX9_readPlace_24 rfl ?_
    exact r_zret C D rfl (Or.inl rfl) (Nat.zero_le _) (Nat.zero_le _) dX9_readPlace_25 w
def PX9_readPlace_0 (E : EV) (post : Option AV → AH → Prop) (h : AH) (l0 : Option Nat) : Prop :=
  CV (sX9_accept E) l0 9 [aI (45 : Int32)] h (kI fun x1 h2 => (x1 = 0 → PX9_readPlace_14 E post h2 l0 (1 : Int32)) ∧ (¬ x1 = 0 → PX9_readPlace_14 E post h2 l0 (-1 : Int32)))
theorem bX9_readPlace_0 {E : EV} {X : AX} {post : Option AV → AH → Prop} (C : Cb E X cX9_readPlace RX9 4 rmX9_readPlace) (D : Cr E X (some .boolean) rmX9_readPlace "readPlace" post) {h : AH} {l0 : Option Nat} (w : PX9_readPlace_0 E post h l0) : Go E X 4 0 0 0 [(0, aP l0)] [] h := by
  unfold PX9_readPlace_0 at w
  refine r_aload_n C dX9_readPlace_0 rfl 0 rfl ?_
  refine r_bipush (v := 45) C dX9_readPlace_1 rfl ?_
  refine r_cvI (rm' := rmX9_accept) C mX9_accept vX9_accept k728 [aI (45 : Int32)] [] rfl rfl (Nat.le_of_ble_eq_true rfl) (by decide) ⟨Nat.zero_le _, Nat.zero_le _⟩ 0 0 rfl rfl dX9_readPlace_3 w (fun x1 h2 w => ?_)
  refine r_if_eq C dX9_readPlace_6 (tgt := 13) rfl (fun hc => ?_) (fun hc => ?_)
  · have w := w.1 hc
    refine r_iconst (v := 1) C dX9_readPlace_13 rfl ?_
    exact (bX9_readPlace_14 C D w)
  · have w := w.2 hc
    refine r_iconst (v := -1) C dX9_readPlace_9 rfl ?_
    refine r_goto C dX9_readPlace_10 (tgt := 14) rfl ?_
    exact (bX9_readPlace_14 C D w)
theorem eX9_readPlace {E : EV} {post : Option AV → AH → Prop} {h : AH} {l0 : Option Nat} (w : PX9_readPlace_0 E post h l0) : sX9_readPlace E [aP l0] h post := Spec.of RX9 rfl rfl (Nat.le_of_ble_eq_true rfl) fun X C D => bX9_readPlace_0 C D w
theorem dX2_readItem_0 : decode cX2_readItem 0 = .ok (.aload_n 1, 1) := by decide +kernel
theorem dX2_readItem_1 : decode cX2_readItem 1 = .ok (.invokevirtual 38, 3) := by decide +kernel
theorem dX2_readItem_4 : decode cX2_readItem 4 = .ok (.bipush 48, 2) := by decide +kernel
theorem dX2_readItem_6 : decode cX2_readItem 6 = .ok (.isub, 1) := by decide +kernel
theorem dX2_readItem_7 : decode cX2_readItem 7 = .ok (.istore_n 2, 1) := by decide +kernel
theorem dX2_readItem_8 : decode cX2_readItem 8 = .ok (.iload_n 2, 1) := by decide +kernel
theorem dX2_readItem_9 : decode cX2_readItem 9 = .ok (.ifCond .lt 8, 3) := by decide +kernel
theorem dX2_readItem_12 : decode cX2_readItem 12 = .ok (.iload_n 2, 1) := by decide +kernel
theorem dX2_readItem_13 : decode cX2_readItem 13 = .ok (.iconst 4, 1) := by decide +kernel
theorem dX2_readItem_14 : decode cX2_readItem 14 = .ok (.if_icmp .lt 5, 3) := by decide +kernel
theorem dX2_readItem_17 : decode cX2_readItem 17 = .ok (.iconst 0, 1) := by decide +kernel
theorem dX2_readItem_18 : decode cX2_readItem 18 = .ok (.ireturn, 1) := by decide +kernel
theorem dX2_readItem_19 : decode cX2_readItem 19 = .ok (.aload_n 1, 1) := by decide +kernel
theorem dX2_readItem_20 : decode cX2_readItem 20 = .ok (.dup, 1) := by decide +kernel
theorem dX2_readItem_21 : decode cX2_readItem 21 = .ok (.getfield 25, 3) := by decide +kernel
theorem dX2_readItem_24 : decode cX2_readItem 24 = .ok (.iconst 1, 1) := by decide +kernel
theorem dX2_readItem_25 : decode cX2_readItem 25 = .ok (.iadd, 1) := by decide +kernel
theorem dX2_readItem_26 : decode cX2_readItem 26 = .ok (.putfield 25, 3) := by decide +kernel
theorem dX2_readItem_29 : decode cX2_readItem 29 = .ok (.aload_n 1, 1) := by decide +kernel
theorem dX2_readItem_30 : decode cX2_readItem 30 = .ok (.bipush 64, 2) := by decide +kernel
theorem dX2_readItem_32 : decode cX2_readItem 32 = .ok (.invokevirtual 42, 3) := by decide +kernel
theorem dX2_readItem_35 : decode cX2_readItem 35 = .ok (.ifCond .eq 10, 3) := by decide +kernel
theorem dX2_readItem_38 : decode cX2_readItem 38 = .ok (.aload_n 1, 1) := by decide +kernel
theorem dX2_readItem_39 : decode cX2_readItem 39 = .ok (.invokevirtual 46, 3) := by decide +kernel
theorem dX2_readItem_42 : decode cX2_readItem 42 = .ok (.ifCond .ne 5, 3) := by decide +kernel
theorem dX2_readItem_45 : decode cX2_readItem 45 = .ok (.iconst 0, 1) := by decide +kernel
theorem dX2_readItem_46 : decode cX2_readItem 46 = .ok (.ireturn, 1) := by decide +kernel
theorem dX2_readItem_47 : decode cX2_readItem 47 = .ok (.aload_n 1, 1) := by decide +kernel
theorem dX2_readItem_48 : decode cX2_readItem 48 = .ok (.getfield 49, 3) := by decide +kernel
theorem dX2_readItem_51 : decode cX2_readItem 51 = .ok (.istore_n 3, 1) := by decide +kernel
theorem dX2_readItem_52 : decode cX2_readItem 52 = .ok (.aload_n 1, 1) := by decide +kernel
theorem dX2_readItem_53 : decode cX2_readItem 53 = .ok (.bipush 44, 2) := by decide +kernel
theorem dX2_readItem_55 : decode cX2_readItem 55 = .ok (.invokevirtual 42, 3) := by decide +kernel
theorem dX2_readItem_58 : decode cX2_readItem 58 = .ok (.ifCond .eq 10, 3) := by decide +kernel
theorem dX2_readItem_61 : decode cX2_readItem 61 = .ok (.aload_n 1, 1) := by decide +kernel
theorem dX2_readItem_62 : decode cX2_readItem 62 = .ok (.invokevirtual 46, 3) := by decide +kernel
theorem dX2_readItem_65 : decode cX2_readItem 65 = .ok (.ifCond .ne 5, 3) := by decide +kernel
theorem dX2_readItem_68 : decode cX2_readItem 68 = .ok (.iconst 0, 1) := by decide +kernel
theorem dX2_readItem_69 : decode cX2_readItem 69 = .ok (.ireturn, 1) := by decide +kernel
theorem dX2_readItem_70 : decode cX2_readItem 70 = .ok (.aload_n 1, 1) := by decide +kernel
theorem dX2_readItem_71 : decode cX2_readItem 71 = .ok (.bipush 59, 2) := by decide +kernel
theorem dX2_readItem_73 : decode cX2_readItem 73 = .ok (.invokevirtual 42, 3) := by decide +kernel
theorem dX2_readItem_76 : decode cX2_readItem 76 = .ok (.ifCond .ne 5, 3) := by decide +kernel
theorem dX2_readItem_79 : decode cX2_readItem 79 = .ok (.iconst 0, 1) := by decide +kernel
theorem dX2_readItem_80 : decode cX2_readItem 80 = .ok (.ireturn, 1) := by decide +kernel
theorem dX2_readItem_81 : decode cX2_readItem 81 = .ok (.aload_n 0, 1) := by decide +kernel
theorem dX2_readItem_82 : decode cX2_readItem 82 = .ok (.iload_n 2, 1) := by decide +kernel
theorem dX2_readItem_83 : decode cX2_readItem 83 = .ok (.iload_n 3, 1) := by decide +kernel
theorem dX2_readItem_84 : decode cX2_readItem 84 = .ok (.aload_n 1, 1) := by decide +kernel
theorem dX2_readItem_85 : decode cX2_readItem 85 = .ok (.getfield 49, 3) := by decide +kernel
theorem dX2_readItem_88 : decode cX2_readItem 88 = .ok (.invokevirtual 52, 3) := by decide +kernel
theorem dX2_readItem_91 : decode cX2_readItem 91 = .ok (.iconst 1, 1) := by decide +kernel
theorem dX2_readItem_92 : decode cX2_readItem 92 = .ok (.ireturn, 1) := by decide +kernel
abbrev rmX2_readItem : Room := { frames := 3, cells := 0, slots := 0, locals := 120 }
abbrev sX2_readItem (E : EV) : List AV → AH → (Option AV → AH → Prop) → Prop := Spec E yX2_readItem cX2_readItem 4 (some .boolean) rmX2_readItem
theorem mX2_readItem : Mt yX2_readItem cX2_readItem 4 (some .boolean) 1 := ⟨k866, k6, by decide +kernel⟩
theorem vX2_readItem : MtV yX2_readItem 2 := ⟨k865, kp23, by decide, (RX2, TX2, 4), rfl, rfl⟩
def PX2_readItem_0 (E : EV) (post : Option AV → AH → Prop) (h : AH) (l0 : Option Nat) (l1 : Option Nat) : Prop :=
  CV (sX9_current E) l1 9 [] h (kI fun x1 h2 => ∀ v3, v3 = (x1 - (48 : Int32)) → (v3 < 0 → post (some (aI (0 : Int32))) h2) ∧ (¬ v3 < 0 → (v3 < (4 : Int32) → rdI h2 l1 9 2 fun x4 => wr h2 l1 9 2 (aI (x4 + (1 : Int32))) fun h5 => CV (sX9_accept E) l1 9 [aI (64 : Int32)] h5 (kI fun x6 h7 => (x6 = 0 → post (some (aI (0 : Int32))) h7) ∧ (¬ x6 = 0 → CV (sX9_readPlace E) l1 9 [] h7 (kI fun x8 h9 => (¬ x8 = 0 → rdI h9 l1 9 3 fun x10 => CV (sX9_accept E) l1 9 [aI (44 : Int32)] h9 (kI fun x12 h13 => (x12 = 0 → post (some (aI (0 : Int32))) h13) ∧ (¬ x12 = 0 → CV (sX9_readPlace E) l1 9 [] h13 (kI fun x14 h15 => (¬ x14 = 0 → CV (sX9_accept E) l1 9 [aI (59 : Int32)] h15 (kI fun x16 h17 => (¬ x16 = 0 → rdI h17 l1 9 3 fun x18 => CV (sX2_keep E) l0 2 [aI v3, aI x10, aI x18] h17 (kV fun h20 => post (some (aI (1 : Int32))) h20)) ∧ (x16 = 0 → post (some (aI (0 : Int32))) h17))) ∧ (x14 = 0 → post (some (aI (0 : Int32))) h15))))) ∧ (x8 = 0 → post (some (aI (0 : Int32))) h9))))) ∧ (¬ v3 < (4 : Int32) → post (some (aI (0 : Int32))) h2)))
theorem bX2_readItem_0 {E : EV} {X : AX} {post : Option AV → AH → Prop} (C : Cb E X cX2_readItem RX2 4 rmX2_readItem) (D : Cr E X (some .boolean) rmX2_readItem "readItem" post) {h : AH} {l0 : Option Nat} {l1 : Option Nat} (w : PX2_readItem_0 E post h l0 l1) : Go E X 4 0 0 0 [(0, aP l0), (1, aP l1)] [] h := by
  unfold PX2_readItem_0 at w
  refine r_aload_n C dX2_readItem_0 rfl 1 rfl ?_
  refine r_cvI (rm' := rmX9_current) C mX9_current vX9_current k867 [] [] rfl rfl (Nat.le_of_ble_eq_true rfl) (by decide) ⟨Nat.zero_le _, Nat.zero_le _⟩ 0 0 rfl rfl dX2_readItem_1 w (fun x1 h2 w => ?_)
  refine r_bipush (v := 48) C dX2_readItem_4 rfl ?_
  refine r_isub C dX2_readItem_6 ?_
  refine r_istore_n C dX2_readItem_7 rfl (by decide) rfl ?_
  have w := w _ rfl
  refine r_iload_n C dX2_readItem_8 rfl 0 rfl ?_
  refine r_if_lt C dX2_readItem_9 (tgt := 17) rfl (fun hc => ?_) (fun hc => ?_)
  · have w := w.1 hc
    refine r_iconst (v := 0) C dX2_readItem_17 rfl ?_
    exact r_zret C D rfl (Or.inl rfl) (Nat.zero_le _) (Nat.zero_le _) dX2_readItem_18 w
  · have w := w.2 hc
    refine r_iload_n C dX2_readItem_12 rfl 0 rfl ?_
    refine r_iconst (v := 4) C dX2_readItem_13 rfl ?_
    refine r_icmp_lt C dX2_readItem_14 (tgt := 19) rfl (fun hc => ?_) (fun hc => ?_)
    · have w := w.1 hc
      refine r_aload_n C dX2_readItem_19 rfl 2 rfl ?_
      refine r_dup C dX2_readItem_20 rfl ?_
      refine r_getI C fcX9 (f := 2) (by decide) rfl k76 dX2_readItem_21 (w.mono fun x4 w => ?_)
      refine r_iconst (v := 1) C dX2_readItem_24 rfl ?_
      refine r_iadd C dX2_readItem_25 ?_
      refine r_put C fcX9 (f := 2) (by decide) rfl rfl rfl rfl k76 dX2_readItem_26 (w.mono fun h5 w => ?_)
      refine r_aload_n C dX2_readItem_29 rfl 2 rfl ?_
      refine r_bipush (v := 64) C dX2_readItem_30 rfl ?_
      refine r_cvI (rm' := rmX9_accept) C mX9_accept vX9_accept k868 [aI (64 : Int32)] [] rfl rfl (Nat.le_of_ble_eq_true rfl) (by decide) ⟨Nat.zero_le _, Nat.zero_le _⟩ 0 0 rfl rfl dX2_readItem_32 w (fun x6 h7 w => ?_)
      refine r_if_eq C dX2_readItem_35 (tgt := 45) rfl (fun hc => ?_) (fun hc => ?_)
      · have w := w.1 hc
        refine r_iconst (v := 0) C dX2_readItem_45 rfl ?_
        exact r_zret C D rfl (Or.inl rfl) (Nat.zero_le _) (Nat.zero_le _) dX2_readItem_46 w
      · have w := w.2 hc
        refine r_aload_n C dX2_readItem_38 rfl 2 rfl ?_
        refine r_cvI (rm' := rmX9_readPlace) C mX9_readPlace vX9_readPlace k869 [] [] rfl rfl (Nat.le_of_ble_eq_true rfl) (by decide) ⟨Nat.zero_le _, Nat.zero_le _⟩ 0 0 rfl rfl dX2_readItem_39 w (fun x8 h9 w => ?_)
        refine r_if_ne C dX2_readItem_42 (tgt := 47) rfl (fun hc => ?_) (fun hc => ?_)
        · have w := w.1 hc
          refine r_aload_n C dX2_readItem_47 rfl 2 rfl ?_
          refine r_getI C fcX9 (f := 3) (by decide) rfl k81 dX2_readItem_48 (w.mono fun x10 w => ?_)
          refine r_istore_n C dX2_readItem_51 rfl (by decide) rfl ?_
          refine r_aload_n C dX2_readItem_52 rfl 3 rfl ?_
          refine r_bipush (v := 44) C dX2_readItem_53 rfl ?_
          refine r_cvI (rm' := rmX9_accept) C mX9_accept vX9_accept k868 [aI (44 : Int32)] [] rfl rfl (Nat.le_of_ble_eq_true rfl) (by decide) ⟨Nat.zero_le _, Nat.zero_le _⟩ 0 0 rfl rfl dX2_readItem_55 w (fun x12 h13 w => ?_)
          refine r_if_eq C dX2_readItem_58 (tgt := 68) rfl (fun hc => ?_) (fun hc => ?_)
          · have w := w.1 hc
            refine r_iconst (v := 0) C dX2_readItem_68 rfl ?_
            exact r_zret C D rfl (Or.inl rfl) (Nat.zero_le _) (Nat.zero_le _) dX2_readItem_69 w
          · have w := w.2 hc
            refine r_aload_n C dX2_readItem_61 rfl 3 rfl ?_
            refine r_cvI (rm' := rmX9_readPlace) C mX9_readPlace vX9_readPlace k869 [] [] rfl rfl (Nat.le_of_ble_eq_true rfl) (by decide) ⟨Nat.zero_le _, Nat.zero_le _⟩ 0 0 rfl rfl dX2_readItem_62 w (fun x14 h15 w => ?_)
            refine r_if_ne C dX2_readItem_65 (tgt := 70) rfl (fun hc => ?_) (fun hc => ?_)
            · have w := w.1 hc
              refine r_aload_n C dX2_readItem_70 rfl 3 rfl ?_
              refine r_bipush (v := 59) C dX2_readItem_71 rfl ?_
              refine r_cvI (rm' := rmX9_accept) C mX9_accept vX9_accept k868 [aI (59 : Int32)] [] rfl rfl (Nat.le_of_ble_eq_true rfl) (by decide) ⟨Nat.zero_le _, Nat.zero_le _⟩ 0 0 rfl rfl dX2_readItem_73 w (fun x16 h17 w => ?_)
              refine r_if_ne C dX2_readItem_76 (tgt := 81) rfl (fun hc => ?_) (fun hc => ?_)
              · have w := w.1 hc
                refine r_aload_n C dX2_readItem_81 rfl 2 rfl ?_
                refine r_iload_n C dX2_readItem_82 rfl 1 rfl ?_
                refine r_iload_n C dX2_readItem_83 rfl 0 rfl ?_
                refine r_aload_n C dX2_readItem_84 rfl 3 rfl ?_
                refine r_getI C fcX9 (f := 3) (by decide) rfl k81 dX2_readItem_85 (w.mono fun x18 w => ?_)
                refine r_cvV (rm' := rmX2_keep) C mX2_keep vX2_keep k873 [aI (x1 - (48 : Int32)), aI x10, aI x18] [] rfl rfl (Nat.le_of_ble_eq_true rfl) (by decide) ⟨Nat.zero_le _, Nat.zero_le _⟩ 0 0 rfl rfl dX2_readItem_88 w (fun h20 w => ?_)
                refine r_iconst (v := 1) C dX2_readItem_91 rfl ?_
                exact r_zret C D rfl (Or.inr rfl) (Nat.zero_le _) (Nat.zero_le _) dX2_readItem_92 w
              · have w := w.2 hc
                refine r_iconst (v := 0) C dX2_readItem_79 rfl ?_
                exact r_zret C D rfl (Or.inl rfl) (Nat.zero_le _) (Nat.zero_le _) dX2_readItem_80 w
            · have w := w.2 hc
              refine r_iconst (v := 0) C dX2_readItem_68 rfl ?_
              exact r_zret C D rfl (Or.inl rfl) (Nat.zero_le _) (Nat.zero_le _) dX2_readItem_69 w
        · have w := w.2 hc
          refine r_iconst (v := 0) C dX2_readItem_45 rfl ?_
          exact r_zret C D rfl (Or.inl rfl) (Nat.zero_le _) (Nat.zero_le _) dX2_readItem_46 w
    · have w := w.2 hc
      refine r_iconst (v := 0) C dX2_readItem_17 rfl ?_
      exact r_zret C D rfl (Or.inl rfl) (Nat.zero_le _) (Nat.zero_le _) dX2_readItem_18 w
theorem eX2_readItem {E : EV} {post : Option AV → AH → Prop} {h : AH} {l0 : Option Nat} {l1 : Option Nat} (w : PX2_readItem_0 E post h l0 l1) : sX2_readItem E [aP l0, aP l1] h post := Spec.of RX2 rfl rfl (Nat.le_of_ble_eq_true rfl) fun X C D => bX2_readItem_0 C D w
theorem dX2_read_0 : decode cX2_read 0 = .ok (.aload_n 0, 1) := by decide +kernel
theorem dX2_read_1 : decode cX2_read 1 = .ok (.iconst 0, 1) := by decide +kernel
theorem dX2_read_2 : decode cX2_read 2 = .ok (.putfield 21, 3) := by decide +kernel
theorem dX2_read_5 : decode cX2_read 5 = .ok (.aload_n 1, 1) := by decide +kernel
theorem dX2_read_6 : decode cX2_read 6 = .ok (.iconst 0, 1) := by decide +kernel
theorem dX2_read_7 : decode cX2_read 7 = .ok (.putfield 25, 3) := by decide +kernel
theorem dX2_read_10 : decode cX2_read 10 = .ok (.iconst 0, 1) := by decide +kernel
theorem dX2_read_11 : decode cX2_read 11 = .ok (.istore_n 2, 1) := by decide +kernel
theorem dX2_read_12 : decode cX2_read 12 = .ok (.iload_n 2, 1) := by decide +kernel
theorem dX2_read_13 : decode cX2_read 13 = .ok (.sipush 150, 3) := by decide +kernel
theorem dX2_read_16 : decode cX2_read 16 = .ok (.if_icmp .ge 26, 3) := by decide +kernel
theorem dX2_read_19 : decode cX2_read 19 = .ok (.aload_n 1, 1) := by decide +kernel
theorem dX2_read_20 : decode cX2_read 20 = .ok (.invokevirtual 30, 3) := by decide +kernel
theorem dX2_read_23 : decode cX2_read 23 = .ok (.ifCond .ne 19, 3) := by decide +kernel
theorem dX2_read_26 : decode cX2_read 26 = .ok (.aload_n 0, 1) := by decide +kernel
theorem dX2_read_27 : decode cX2_read 27 = .ok (.aload_n 1, 1) := by decide +kernel
theorem dX2_read_28 : decode cX2_read 28 = .ok (.invokevirtual 34, 3) := by decide +kernel
theorem dX2_read_31 : decode cX2_read 31 = .ok (.ifCond .ne 5, 3) := by decide +kernel
theorem dX2_read_34 : decode cX2_read 34 = .ok (.iconst 0, 1) := by decide +kernel
theorem dX2_read_35 : decode cX2_read 35 = .ok (.ireturn, 1) := by decide +kernel
theorem dX2_read_36 : decode cX2_read 36 = .ok (.iinc 2 1, 3) := by decide +kernel
theorem dX2_read_39 : decode cX2_read 39 = .ok (.goto (-27), 3) := by decide +kernel
theorem dX2_read_42 : decode cX2_read 42 = .ok (.aload_n 1, 1) := by decide +kernel
theorem dX2_read_43 : decode cX2_read 43 = .ok (.invokevirtual 30, 3) := by decide +kernel
theorem dX2_read_46 : decode cX2_read 46 = .ok (.ireturn, 1) := by decide +kernel
abbrev rmX2_read : Room := { frames := 4, cells := 0, slots := 0, locals := 160 }
abbrev sX2_read (E : EV) : List AV → AH → (Option AV → AH → Prop) → Prop := Spec E yX2_read cX2_read 3 (some .boolean) rmX2_read
theorem mX2_read : Mt yX2_read cX2_read 3 (some .boolean) 1 := ⟨k861, k6, by decide +kernel⟩
theorem vX2_read : MtV yX2_read 2 := ⟨k859, k860, by decide, (RX2, TX2, 4), rfl, rfl⟩
def PX2_read_42 (E : EV) (post : Option AV → AH → Prop) (h : AH) (l1 : Option Nat) : Prop :=
  CV (sX9_isAtEnd E) l1 9 [] h (kI fun x1 h2 => (x1 = 0 ∨ x1 = 1) ∧ post (some (aI x1)) h2)
theorem bX2_read_42 {E : EV} {X : AX} {post : Option AV → AH → Prop} (C : Cb E X cX2_read RX2 3 rmX2_read) (D : Cr E X (some .boolean) rmX2_read "read" post) {h : AH} {l1 : Option Nat} (w : PX2_read_42 E post h l1) : Go E X 3 0 0 42 [(1, aP l1)] [] h := by
  unfold PX2_read_42 at w
  refine r_aload_n C dX2_read_42 rfl 0 rfl ?_
  refine r_cvI (rm' := rmX9_isAtEnd) C mX9_isAtEnd vX9_isAtEnd k862 [] [] rfl rfl (Nat.le_of_ble_eq_true rfl) (by decide) ⟨Nat.zero_le _, Nat.zero_le _⟩ 0 0 rfl rfl dX2_read_43 w (fun x1 h2 w => ?_)
  exact r_zret C D rfl w.1 (Nat.zero_le _) (Nat.zero_le _) dX2_read_46 w.2
def PX2_read_12 (E : EV) (post : Option AV → AH → Prop) (J12 : AH → Option Nat → Option Nat → Int32 → Prop) (h : AH) (l0 : Option Nat) (l1 : Option Nat) (l2 : Int32) : Prop :=
  ((150 : Int32) ≤ l2 → PX2_read_42 E post h l1) ∧ (¬ (150 : Int32) ≤ l2 → CV (sX9_isAtEnd E) l1 9 [] h (kI fun x1 h2 => (¬ x1 = 0 → PX2_read_42 E post h2 l1) ∧ (x1 = 0 → CV (sX2_readItem E) l0 2 [aP l1] h2 (kI fun x3 h4 => (¬ x3 = 0 → J12 h4 l0 l1 (l2 + (1 : Int32))) ∧ (x3 = 0 → post (some (aI (0 : Int32))) h4)))))
theorem bX2_read_12 {E : EV} {X : AX} {post : Option AV → AH → Prop} (C : Cb E X cX2_read RX2 3 rmX2_read) (D : Cr E X (some .boolean) rmX2_read "read" post) {J12 : AH → Option Nat → Option Nat → Int32 → Prop} (g12 : ∀ (h : AH) (l0 : Option Nat) (l1 : Option Nat) (l2 : Int32), J12 h l0 l1 l2 → Go E X 3 0 0 12 [(0, aP l0), (1, aP l1), (2, aI l2)] [] h) {h : AH} {l0 : Option Nat} {l1 : Option Nat} {l2 : Int32} (w : PX2_read_12 E post J12 h l0 l1 l2) : Go E X 3 0 0 12 [(0, aP l0), (1, aP l1), (2, aI l2)] [] h := by
  unfold PX2_read_12 at w
  refine r_iload_n C dX2_read_12 rfl 2 rfl ?_
  refine r_sipush (v := 150) C dX2_read_13 rfl ?_
  refine r_icmp_ge C dX2_read_16 (tgt := 42) rfl (fun hc => ?_) (fun hc => ?_)
  · have w := w.1 hc
    exact r_sub [1] rfl (bX2_read_42 C D w)
  · have w := w.2 hc
    refine r_aload_n C dX2_read_19 rfl 1 rfl ?_
    refine r_cvI (rm' := rmX9_isAtEnd) C mX9_isAtEnd vX9_isAtEnd k862 [] [] rfl rfl (Nat.le_of_ble_eq_true rfl) (by decide) ⟨Nat.zero_le _, Nat.zero_le _⟩ 0 0 rfl rfl dX2_read_20 w (fun x1 h2 w => ?_)
    refine r_if_ne C dX2_read_23 (tgt := 42) rfl (fun hc => ?_) (fun hc => ?_)
    · have w := w.1 hc
      exact r_sub [1] rfl (bX2_read_42 C D w)
    · have w := w.2 hc
      refine r_aload_n C dX2_read_26 rfl 0 rfl ?_
      refine r_aload_n C dX2_read_27 rfl 1 rfl ?_
      refine r_cvI (rm' := rmX2_readItem) C mX2_readItem vX2_readItem k863 [aP l1] [] rfl rfl (Nat.le_of_ble_eq_true rfl) (by decide) ⟨Nat.zero_le _, Nat.zero_le _⟩ 0 0 rfl rfl dX2_read_28 w (fun x3 h4 w => ?_)
      refine r_if_ne C dX2_read_31 (tgt := 36) rfl (fun hc => ?_) (fun hc => ?_)
      · have w := w.1 hc
        refine r_iinc C dX2_read_36 2 rfl (v := 1) rfl (by decide) rfl ?_
        refine r_goto C dX2_read_39 (tgt := 12) rfl ?_
        exact r_sub [1, 2, 0] rfl (g12 h4 l0 l1 (l2 + (1 : Int32)) w)
      · have w := w.2 hc
        refine r_iconst (v := 0) C dX2_read_34 rfl ?_
        exact r_zret C D rfl (Or.inl rfl) (Nat.zero_le _) (Nat.zero_le _) dX2_read_35 w
theorem lpX2_read_12 {E : EV} {X : AX} {post : Option AV → AH → Prop} (C : Cb E X cX2_read RX2 3 rmX2_read) (D : Cr E X (some .boolean) rmX2_read "read" post) (I : Nat → AH → Option Nat → Option Nat → Int32 → Prop) (step : ∀ (z : Nat) (h : AH) (l0 : Option Nat) (l1 : Option Nat) (l2 : Int32), I z h l0 l1 l2 → PX2_read_12 E post (fun h l0 l1 l2 => ∃ z', z' < z ∧ I z' h l0 l1 l2) h l0 l1 l2) : ∀ (z : Nat) (h : AH) (l0 : Option Nat) (l1 : Option Nat) (l2 : Int32), I z h l0 l1 l2 → Go E X 3 0 0 12 [(0, aP l0), (1, aP l1), (2, aI l2)] [] h := by
  intro z
  induction z using Nat.strongRecOn with
  | _ z ih =>
    intro h l0 l1 l2 hI
    exact bX2_read_12 C D (fun h l0 l1 l2 hJ => by obtain ⟨z', hz, hi⟩ := hJ; exact ih z' hz h l0 l1 l2 hi) (step z h l0 l1 l2 hI)
def PX2_read_0 (E : EV) (post : Option AV → AH → Prop) (J12 : AH → Option Nat → Option Nat → Int32 → Prop) (h : AH) (l0 : Option Nat) (l1 : Option Nat) : Prop :=
  wr h l0 2 3 (aI (0 : Int32)) fun h1 => wr h1 l1 9 2 (aI (0 : Int32)) fun h2 => J12 h2 l0 l1 (0 : Int32)
theorem bX2_read_0 {E : EV} {X : AX} {post : Option AV → AH → Prop} (C : Cb E X cX2_read RX2 3 rmX2_read) (D : Cr E X (some .boolean) rmX2_read "read" post) {J12 : AH → Option Nat → Option Nat → Int32 → Prop} (g12 : ∀ (h : AH) (l0 : Option Nat) (l1 : Option Nat) (l2 : Int32), J12 h l0 l1 l2 → Go E X 3 0 0 12 [(0, aP l0), (1, aP l1), (2, aI l2)] [] h) {h : AH} {l0 : Option Nat} {l1 : Option Nat} (w : PX2_read_0 E post J12 h l0 l1) : Go E X 3 0 0 0 [(0, aP l0), (1, aP l1)] [] h := by
  unfold PX2_read_0 at w
  refine r_aload_n C dX2_read_0 rfl 0 rfl ?_
  refine r_iconst (v := 0) C dX2_read_1 rfl ?_
  refine r_put C fcX2 (f := 3) (by decide) rfl rfl rfl rfl k149 dX2_read_2 (w.mono fun h1 w => ?_)
  refine r_aload_n C dX2_read_5 rfl 1 rfl ?_
  refine r_iconst (v := 0) C dX2_read_6 rfl ?_
  refine r_put C fcX9 (f := 2) (by decide) rfl rfl rfl rfl k76 dX2_read_7 (w.mono fun h2 w => ?_)
  refine r_iconst (v := 0) C dX2_read_10 rfl ?_
  refine r_istore_n C dX2_read_11 rfl (by decide) rfl ?_
  exact r_sub [1, 2, 0] rfl (g12 h2 l0 l1 (0 : Int32) w)
theorem eX2_read {E : EV} {post : Option AV → AH → Prop} {h : AH} {l0 : Option Nat} {l1 : Option Nat} {J12 : AH → Option Nat → Option Nat → Int32 → Prop} (g12 : ∀ X : AX, Cb E X cX2_read RX2 3 rmX2_read → Cr E X (some .boolean) rmX2_read "read" post → ∀ (h : AH) (l0 : Option Nat) (l1 : Option Nat) (l2 : Int32), J12 h l0 l1 l2 → Go E X 3 0 0 12 [(0, aP l0), (1, aP l1), (2, aI l2)] [] h) (w : PX2_read_0 E post J12 h l0 l1) : sX2_read E [aP l0, aP l1] h post := Spec.of RX2 rfl rfl (Nat.le_of_ble_eq_true rfl) fun X C D => bX2_read_0 C D (g12 X C D) w
theorem dX2_slot_0 : decode cX2_slot 0 = .ok (.iload_n 1, 1) := by decide +kernel
theorem dX2_slot_1 : decode cX2_slot 1 = .ok (.ifCond .lt 21, 3) := by decide +kernel
theorem dX2_slot_4 : decode cX2_slot 4 = .ok (.iload_n 1, 1) := by decide +kernel
theorem dX2_slot_5 : decode cX2_slot 5 = .ok (.aload_n 0, 1) := by decide +kernel
theorem dX2_slot_6 : decode cX2_slot 6 = .ok (.getfield 9, 3) := by decide +kernel
theorem dX2_slot_9 : decode cX2_slot 9 = .ok (.arraylength, 1) := by decide +kernel
theorem dX2_slot_10 : decode cX2_slot 10 = .ok (.if_icmp .ge 12, 3) := by decide +kernel
theorem dX2_slot_13 : decode cX2_slot 13 = .ok (.aload_n 0, 1) := by decide +kernel
theorem dX2_slot_14 : decode cX2_slot 14 = .ok (.getfield 9, 3) := by decide +kernel
theorem dX2_slot_17 : decode cX2_slot 17 = .ok (.iload_n 1, 1) := by decide +kernel
theorem dX2_slot_18 : decode cX2_slot 18 = .ok (.iaload, 1) := by decide +kernel
theorem dX2_slot_19 : decode cX2_slot 19 = .ok (.goto 4, 3) := by decide +kernel
theorem dX2_slot_22 : decode cX2_slot 22 = .ok (.iconst 0, 1) := by decide +kernel
theorem dX2_slot_23 : decode cX2_slot 23 = .ok (.ireturn, 1) := by decide +kernel
abbrev rmX2_slot : Room := { frames := 0, cells := 0, slots := 0, locals := 0 }
abbrev sX2_slot (E : EV) : List AV → AH → (Option AV → AH → Prop) → Prop := Spec E yX2_slot cX2_slot 2 (some .int) rmX2_slot
theorem mX2_slot : Mt yX2_slot cX2_slot 2 (some .int) 1 := ⟨k880, k6, by decide +kernel⟩
theorem vX2_slot : MtV yX2_slot 2 := ⟨k878, k879, by decide, (RX2, TX2, 4), rfl, rfl⟩
def PX2_slot_0 (E : EV) (post : Option AV → AH → Prop) (h : AH) (l0 : Option Nat) (l1 : Int32) : Prop :=
  (l1 < 0 → post (some (aI (0 : Int32))) h) ∧ (¬ l1 < 0 → rdP h l0 2 0 fun x1 => alenI h x1 0 fun x2 => (x2 ≤ l1 → post (some (aI (0 : Int32))) h) ∧ (¬ x2 ≤ l1 → rdP h l0 2 0 fun x3 => aldI h x3 0 l1 fun x4 => post (some (aI x4)) h))
theorem bX2_slot_0 {E : EV} {X : AX} {post : Option AV → AH → Prop} (C : Cb E X cX2_slot RX2 2 rmX2_slot) (D : Cr E X (some .int) rmX2_slot "slot" post) {h : AH} {l0 : Option Nat} {l1 : Int32} (w : PX2_slot_0 E post h l0 l1) : Go E X 2 0 0 0 [(0, aP l0), (1, aI l1)] [] h := by
  unfold PX2_slot_0 at w
  refine r_iload_n C dX2_slot_0 rfl 1 rfl ?_
  refine r_if_lt C dX2_slot_1 (tgt := 22) rfl (fun hc => ?_) (fun hc => ?_)
  · have w := w.1 hc
    refine r_iconst (v := 0) C dX2_slot_22 rfl ?_
    exact r_iret C D rfl (Nat.zero_le _) (Nat.zero_le _) dX2_slot_23 w
  · have w := w.2 hc
    refine r_iload_n C dX2_slot_4 rfl 1 rfl ?_
    refine r_aload_n C dX2_slot_5 rfl 0 rfl ?_
    refine r_getP C fcX2 (f := 0) (by decide) rfl k146 dX2_slot_6 (w.mono fun x1 w => ?_)
    refine r_alenI 0 0 rfl C dX2_slot_9 (w.mono fun x2 w => ?_)
    refine r_icmp_ge C dX2_slot_10 (tgt := 22) rfl (fun hc => ?_) (fun hc => ?_)
    · have w := w.1 hc
      refine r_iconst (v := 0) C dX2_slot_22 rfl ?_
      exact r_iret C D rfl (Nat.zero_le _) (Nat.zero_le _) dX2_slot_23 w
    · have w := w.2 hc
      refine r_aload_n C dX2_slot_13 rfl 0 rfl ?_
      refine r_getP C fcX2 (f := 0) (by decide) rfl k146 dX2_slot_14 (w.mono fun x3 w => ?_)
      refine r_iload_n C dX2_slot_17 rfl 1 rfl ?_
      refine r_iald C dX2_slot_18 (w.mono fun x4 w => ?_)
      refine r_goto C dX2_slot_19 (tgt := 23) rfl ?_
      exact r_iret C D rfl (Nat.zero_le _) (Nat.zero_le _) dX2_slot_23 w
theorem eX2_slot {E : EV} {post : Option AV → AH → Prop} {h : AH} {l0 : Option Nat} {l1 : Int32} (w : PX2_slot_0 E post h l0 l1) : sX2_slot E [aP l0, aI l1] h post := Spec.of RX2 rfl rfl (Nat.le_of_ble_eq_true rfl) fun X C D => bX2_slot_0 C D w
theorem dX2_x_0 : decode cX2_x 0 = .ok (.iload_n 1, 1) := by decide +kernel
theorem dX2_x_1 : decode cX2_x 1 = .ok (.ifCond .lt 21, 3) := by decide +kernel
theorem dX2_x_4 : decode cX2_x 4 = .ok (.iload_n 1, 1) := by decide +kernel
theorem dX2_x_5 : decode cX2_x 5 = .ok (.aload_n 0, 1) := by decide +kernel
theorem dX2_x_6 : decode cX2_x 6 = .ok (.getfield 15, 3) := by decide +kernel
theorem dX2_x_9 : decode cX2_x 9 = .ok (.arraylength, 1) := by decide +kernel
theorem dX2_x_10 : decode cX2_x 10 = .ok (.if_icmp .ge 12, 3) := by decide +kernel
theorem dX2_x_13 : decode cX2_x 13 = .ok (.aload_n 0, 1) := by decide +kernel
theorem dX2_x_14 : decode cX2_x 14 = .ok (.getfield 15, 3) := by decide +kernel
theorem dX2_x_17 : decode cX2_x 17 = .ok (.iload_n 1, 1) := by decide +kernel
theorem dX2_x_18 : decode cX2_x 18 = .ok (.iaload, 1) := by decide +kernel
theorem dX2_x_19 : decode cX2_x 19 = .ok (.goto 4, 3) := by decide +kernel
theorem dX2_x_22 : decode cX2_x 22 = .ok (.iconst 0, 1) := by decide +kernel
theorem dX2_x_23 : decode cX2_x 23 = .ok (.ireturn, 1) := by decide +kernel
abbrev rmX2_x : Room := { frames := 0, cells := 0, slots := 0, locals := 0 }
abbrev sX2_x (E : EV) : List AV → AH → (Option AV → AH → Prop) → Prop := Spec E yX2_x cX2_x 2 (some .int) rmX2_x
theorem mX2_x : Mt yX2_x cX2_x 2 (some .int) 1 := ⟨k884, k6, by decide +kernel⟩
theorem vX2_x : MtV yX2_x 2 := ⟨k882, k883, by decide, (RX2, TX2, 4), rfl, rfl⟩
def PX2_x_0 (E : EV) (post : Option AV → AH → Prop) (h : AH) (l0 : Option Nat) (l1 : Int32) : Prop :=
  (l1 < 0 → post (some (aI (0 : Int32))) h) ∧ (¬ l1 < 0 → rdP h l0 2 1 fun x1 => alenI h x1 0 fun x2 => (x2 ≤ l1 → post (some (aI (0 : Int32))) h) ∧ (¬ x2 ≤ l1 → rdP h l0 2 1 fun x3 => aldI h x3 0 l1 fun x4 => post (some (aI x4)) h))
theorem bX2_x_0 {E : EV} {X : AX} {post : Option AV → AH → Prop} (C : Cb E X cX2_x RX2 2 rmX2_x) (D : Cr E X (some .int) rmX2_x "x" post) {h : AH} {l0 : Option Nat} {l1 : Int32} (w : PX2_x_0 E post h l0 l1) : Go E X 2 0 0 0 [(0, aP l0), (1, aI l1)] [] h := by
  unfold PX2_x_0 at w
  refine r_iload_n C dX2_x_0 rfl 1 rfl ?_
  refine r_if_lt C dX2_x_1 (tgt := 22) rfl (fun hc => ?_) (fun hc => ?_)
  · have w := w.1 hc
    refine r_iconst (v := 0) C dX2_x_22 rfl ?_
    exact r_iret C D rfl (Nat.zero_le _) (Nat.zero_le _) dX2_x_23 w
  · have w := w.2 hc
    refine r_iload_n C dX2_x_4 rfl 1 rfl ?_
    refine r_aload_n C dX2_x_5 rfl 0 rfl ?_
    refine r_getP C fcX2 (f := 1) (by decide) rfl k147 dX2_x_6 (w.mono fun x1 w => ?_)
    refine r_alenI 0 0 rfl C dX2_x_9 (w.mono fun x2 w => ?_)
    refine r_icmp_ge C dX2_x_10 (tgt := 22) rfl (fun hc => ?_) (fun hc => ?_)
    · have w := w.1 hc
      refine r_iconst (v := 0) C dX2_x_22 rfl ?_
      exact r_iret C D rfl (Nat.zero_le _) (Nat.zero_le _) dX2_x_23 w
    · have w := w.2 hc
      refine r_aload_n C dX2_x_13 rfl 0 rfl ?_
      refine r_getP C fcX2 (f := 1) (by decide) rfl k147 dX2_x_14 (w.mono fun x3 w => ?_)
      refine r_iload_n C dX2_x_17 rfl 1 rfl ?_
      refine r_iald C dX2_x_18 (w.mono fun x4 w => ?_)
      refine r_goto C dX2_x_19 (tgt := 23) rfl ?_
      exact r_iret C D rfl (Nat.zero_le _) (Nat.zero_le _) dX2_x_23 w
theorem eX2_x {E : EV} {post : Option AV → AH → Prop} {h : AH} {l0 : Option Nat} {l1 : Int32} (w : PX2_x_0 E post h l0 l1) : sX2_x E [aP l0, aI l1] h post := Spec.of RX2 rfl rfl (Nat.le_of_ble_eq_true rfl) fun X C D => bX2_x_0 C D w
theorem dX2_y_0 : decode cX2_y 0 = .ok (.iload_n 1, 1) := by decide +kernel
theorem dX2_y_1 : decode cX2_y 1 = .ok (.ifCond .lt 21, 3) := by decide +kernel
theorem dX2_y_4 : decode cX2_y 4 = .ok (.iload_n 1, 1) := by decide +kernel
theorem dX2_y_5 : decode cX2_y 5 = .ok (.aload_n 0, 1) := by decide +kernel
theorem dX2_y_6 : decode cX2_y 6 = .ok (.getfield 18, 3) := by decide +kernel
theorem dX2_y_9 : decode cX2_y 9 = .ok (.arraylength, 1) := by decide +kernel
theorem dX2_y_10 : decode cX2_y 10 = .ok (.if_icmp .ge 12, 3) := by decide +kernel
theorem dX2_y_13 : decode cX2_y 13 = .ok (.aload_n 0, 1) := by decide +kernel
theorem dX2_y_14 : decode cX2_y 14 = .ok (.getfield 18, 3) := by decide +kernel
theorem dX2_y_17 : decode cX2_y 17 = .ok (.iload_n 1, 1) := by decide +kernel
theorem dX2_y_18 : decode cX2_y 18 = .ok (.iaload, 1) := by decide +kernel
theorem dX2_y_19 : decode cX2_y 19 = .ok (.goto 4, 3) := by decide +kernel
theorem dX2_y_22 : decode cX2_y 22 = .ok (.iconst 0, 1) := by decide +kernel
theorem dX2_y_23 : decode cX2_y 23 = .ok (.ireturn, 1) := by decide +kernel
abbrev rmX2_y : Room := { frames := 0, cells := 0, slots := 0, locals := 0 }
abbrev sX2_y (E : EV) : List AV → AH → (Option AV → AH → Prop) → Prop := Spec E yX2_y cX2_y 2 (some .int) rmX2_y
theorem mX2_y : Mt yX2_y cX2_y 2 (some .int) 1 := ⟨k888, k6, by decide +kernel⟩
theorem vX2_y : MtV yX2_y 2 := ⟨k886, k887, by decide, (RX2, TX2, 4), rfl, rfl⟩
def PX2_y_0 (E : EV) (post : Option AV → AH → Prop) (h : AH) (l0 : Option Nat) (l1 : Int32) : Prop :=
  (l1 < 0 → post (some (aI (0 : Int32))) h) ∧ (¬ l1 < 0 → rdP h l0 2 2 fun x1 => alenI h x1 0 fun x2 => (x2 ≤ l1 → post (some (aI (0 : Int32))) h) ∧ (¬ x2 ≤ l1 → rdP h l0 2 2 fun x3 => aldI h x3 0 l1 fun x4 => post (some (aI x4)) h))
theorem bX2_y_0 {E : EV} {X : AX} {post : Option AV → AH → Prop} (C : Cb E X cX2_y RX2 2 rmX2_y) (D : Cr E X (some .int) rmX2_y "y" post) {h : AH} {l0 : Option Nat} {l1 : Int32} (w : PX2_y_0 E post h l0 l1) : Go E X 2 0 0 0 [(0, aP l0), (1, aI l1)] [] h := by
  unfold PX2_y_0 at w
  refine r_iload_n C dX2_y_0 rfl 1 rfl ?_
  refine r_if_lt C dX2_y_1 (tgt := 22) rfl (fun hc => ?_) (fun hc => ?_)
  · have w := w.1 hc
    refine r_iconst (v := 0) C dX2_y_22 rfl ?_
    exact r_iret C D rfl (Nat.zero_le _) (Nat.zero_le _) dX2_y_23 w
  · have w := w.2 hc
    refine r_iload_n C dX2_y_4 rfl 1 rfl ?_
    refine r_aload_n C dX2_y_5 rfl 0 rfl ?_
    refine r_getP C fcX2 (f := 2) (by decide) rfl k148 dX2_y_6 (w.mono fun x1 w => ?_)
    refine r_alenI 0 0 rfl C dX2_y_9 (w.mono fun x2 w => ?_)
    refine r_icmp_ge C dX2_y_10 (tgt := 22) rfl (fun hc => ?_) (fun hc => ?_)
    · have w := w.1 hc
      refine r_iconst (v := 0) C dX2_y_22 rfl ?_
      exact r_iret C D rfl (Nat.zero_le _) (Nat.zero_le _) dX2_y_23 w
    · have w := w.2 hc
      refine r_aload_n C dX2_y_13 rfl 0 rfl ?_
      refine r_getP C fcX2 (f := 2) (by decide) rfl k148 dX2_y_14 (w.mono fun x3 w => ?_)
      refine r_iload_n C dX2_y_17 rfl 1 rfl ?_
      refine r_iald C dX2_y_18 (w.mono fun x4 w => ?_)
      refine r_goto C dX2_y_19 (tgt := 23) rfl ?_
      exact r_iret C D rfl (Nat.zero_le _) (Nat.zero_le _) dX2_y_23 w
theorem eX2_y {E : EV} {post : Option AV → AH → Prop} {h : AH} {l0 : Option Nat} {l1 : Int32} (w : PX2_y_0 E post h l0 l1) : sX2_y E [aP l0, aI l1] h post := Spec.of RX2 rfl rfl (Nat.le_of_ble_eq_true rfl) fun X C D => bX2_y_0 C D w
theorem dX5_clear_0 : decode cX5_clear 0 = .ok (.aload_n 0, 1) := by decide +kernel
theorem dX5_clear_1 : decode cX5_clear 1 = .ok (.iconst 0, 1) := by decide +kernel
theorem dX5_clear_2 : decode cX5_clear 2 = .ok (.putfield 18, 3) := by decide +kernel
theorem dX5_clear_5 : decode cX5_clear 5 = .ok (.return_, 1) := by decide +kernel
abbrev rmX5_clear : Room := { frames := 0, cells := 0, slots := 0, locals := 0 }
abbrev sX5_clear (E : EV) : List AV → AH → (Option AV → AH → Prop) → Prop := Spec E yX5_clear cX5_clear 1 none rmX5_clear
theorem mX5_clear : Mt yX5_clear cX5_clear 1 none 0 := ⟨k435, k5, by decide +kernel⟩
theorem vX5_clear : MtV yX5_clear 5 := ⟨k433, k434, by decide, (RX5, TX5, 8), rfl, rfl⟩
def PX5_clear_0 (E : EV) (post : Option AV → AH → Prop) (h : AH) (l0 : Option Nat) : Prop :=
  wr h l0 5 2 (aI (0 : Int32)) fun h1 => post none h1
theorem bX5_clear_0 {E : EV} {X : AX} {post : Option AV → AH → Prop} (C : Cb E X cX5_clear RX5 1 rmX5_clear) (D : Cr E X none rmX5_clear "clear" post) {h : AH} {l0 : Option Nat} (w : PX5_clear_0 E post h l0) : Go E X 1 0 0 0 [(0, aP l0)] [] h := by
  unfold PX5_clear_0 at w
  refine r_aload_n C dX5_clear_0 rfl 0 rfl ?_
  refine r_iconst (v := 0) C dX5_clear_1 rfl ?_
  refine r_put C fcX5 (f := 2) (by decide) rfl rfl rfl rfl k108 dX5_clear_2 (w.mono fun h1 w => ?_)
  exact r_vret C D rfl (Nat.zero_le _) (Nat.zero_le _) dX5_clear_5 w
theorem eX5_clear {E : EV} {post : Option AV → AH → Prop} {h : AH} {l0 : Option Nat} (w : PX5_clear_0 E post h l0) : sX5_clear E [aP l0] h post := Spec.of RX5 rfl rfl (Nat.le_of_ble_eq_true rfl) fun X C D => bX5_clear_0 C D w
theorem dX6_start_0 : decode cX6_start 0 = .ok (.iload_n 1, 1) := by decide +kernel
theorem dX6_start_1 : decode cX6_start 1 = .ok (.ifCond .lt 21, 3) := by decide +kernel
theorem dX6_start_4 : decode cX6_start 4 = .ok (.iload_n 1, 1) := by decide +kernel
theorem dX6_start_5 : decode cX6_start 5 = .ok (.aload_n 0, 1) := by decide +kernel
theorem dX6_start_6 : decode cX6_start 6 = .ok (.getfield 9, 3) := by decide +kernel
theorem dX6_start_9 : decode cX6_start 9 = .ok (.arraylength, 1) := by decide +kernel
theorem dX6_start_10 : decode cX6_start 10 = .ok (.if_icmp .ge 12, 3) := by decide +kernel
theorem dX6_start_13 : decode cX6_start 13 = .ok (.aload_n 0, 1) := by decide +kernel
theorem dX6_start_14 : decode cX6_start 14 = .ok (.getfield 9, 3) := by decide +kernel
theorem dX6_start_17 : decode cX6_start 17 = .ok (.iload_n 1, 1) := by decide +kernel
theorem dX6_start_18 : decode cX6_start 18 = .ok (.iaload, 1) := by decide +kernel
theorem dX6_start_19 : decode cX6_start 19 = .ok (.goto 7, 3) := by decide +kernel
theorem dX6_start_22 : decode cX6_start 22 = .ok (.aload_n 0, 1) := by decide +kernel
theorem dX6_start_23 : decode cX6_start 23 = .ok (.getfield 25, 3) := by decide +kernel
theorem dX6_start_26 : decode cX6_start 26 = .ok (.ireturn, 1) := by decide +kernel
abbrev rmX6_start : Room := { frames := 0, cells := 0, slots := 0, locals := 0 }
abbrev sX6_start (E : EV) : List AV → AH → (Option AV → AH → Prop) → Prop := Spec E yX6_start cX6_start 2 (some .int) rmX6_start
theorem mX6_start : Mt yX6_start cX6_start 2 (some .int) 1 := ⟨k439, k2, by decide +kernel⟩
theorem vX6_start : MtV yX6_start 6 := ⟨k437, k438, by decide, (RX6, TX6, 9), rfl, rfl⟩
def PX6_start_22 (E : EV) (post : Option AV → AH → Prop) (h : AH) (l0 : Option Nat) : Prop :=
  rdI h l0 6 4 fun x1 => post (some (aI x1)) h
theorem bX6_start_22 {E : EV} {X : AX} {post : Option AV → AH → Prop} (C : Cb E X cX6_start RX6 2 rmX6_start) (D : Cr E X (some .int) rmX6_start "start" post) {h : AH} {l0 : Option Nat} (w : PX6_start_22 E post h l0) : Go E X 2 0 0 22 [(0, aP l0)] [] h := by
  unfold PX6_start_22 at w
  refine r_aload_n C dX6_start_22 rfl 0 rfl ?_
  refine r_getI C fcX6 (f := 4) (by decide) rfl k34 dX6_start_23 (w.mono fun x1 w => ?_)
  exact r_iret C D rfl (Nat.zero_le _) (Nat.zero_le _) dX6_start_26 w
def PX6_start_0 (E : EV) (post : Option AV → AH → Prop) (h : AH) (l0 : Option Nat) (l1 : Int32) : Prop :=
  (l1 < 0 → PX6_start_22 E post h l0) ∧ (¬ l1 < 0 → rdP h l0 6 0 fun x1 => alenI h x1 0 fun x2 => (x2 ≤ l1 → PX6_start_22 E post h l0) ∧ (¬ x2 ≤ l1 → rdP h l0 6 0 fun x3 => aldI h x3 0 l1 fun x4 => post (some (aI x4)) h))
theorem bX6_start_0 {E : EV} {X : AX} {post : Option AV → AH → Prop} (C : Cb E X cX6_start RX6 2 rmX6_start) (D : Cr E X (some .int) rmX6_start "start" post) {h : AH} {l0 : Option Nat} {l1 : Int32} (w : PX6_start_0 E post h l0 l1) : Go E X 2 0 0 0 [(0, aP l0), (1, aI l1)] [] h := by
  unfold PX6_start_0 at w
  refine r_iload_n C dX6_start_0 rfl 1 rfl ?_
  refine r_if_lt C dX6_start_1 (tgt := 22) rfl (fun hc => ?_) (fun hc => ?_)
  · have w := w.1 hc
    exact r_sub [0] rfl (bX6_start_22 C D w)
  · have w := w.2 hc
    refine r_iload_n C dX6_start_4 rfl 1 rfl ?_
    refine r_aload_n C dX6_start_5 rfl 0 rfl ?_
    refine r_getP C fcX6 (f := 0) (by decide) rfl k27 dX6_start_6 (w.mono fun x1 w => ?_)
    refine r_alenI 0 0 rfl C dX6_start_9 (w.mono fun x2 w => ?_)
    refine r_icmp_ge C dX6_start_10 (tgt := 22) rfl (fun hc => ?_) (fun hc => ?_)
    · have w := w.1 hc
      exact r_sub [0] rfl (bX6_start_22 C D w)
    · have w := w.2 hc
      refine r_aload_n C dX6_start_13 rfl 0 rfl ?_
      refine r_getP C fcX6 (f := 0) (by decide) rfl k27 dX6_start_14 (w.mono fun x3 w => ?_)
      refine r_iload_n C dX6_start_17 rfl 1 rfl ?_
      refine r_iald C dX6_start_18 (w.mono fun x4 w => ?_)
      refine r_goto C dX6_start_19 (tgt := 26) rfl ?_
      exact r_iret C D rfl (Nat.zero_le _) (Nat.zero_le _) dX6_start_26 w
theorem eX6_start {E : EV} {post : Option AV → AH → Prop} {h : AH} {l0 : Option Nat} {l1 : Int32} (w : PX6_start_0 E post h l0 l1) : sX6_start E [aP l0, aI l1] h post := Spec.of RX6 rfl rfl (Nat.le_of_ble_eq_true rfl) fun X C D => bX6_start_0 C D w
theorem dX6_x_0 : decode cX6_x 0 = .ok (.iload_n 1, 1) := by decide +kernel
theorem dX6_x_1 : decode cX6_x 1 = .ok (.ifCond .lt 21, 3) := by decide +kernel
theorem dX6_x_4 : decode cX6_x 4 = .ok (.iload_n 1, 1) := by decide +kernel
theorem dX6_x_5 : decode cX6_x 5 = .ok (.aload_n 0, 1) := by decide +kernel
theorem dX6_x_6 : decode cX6_x 6 = .ok (.getfield 15, 3) := by decide +kernel
theorem dX6_x_9 : decode cX6_x 9 = .ok (.arraylength, 1) := by decide +kernel
theorem dX6_x_10 : decode cX6_x 10 = .ok (.if_icmp .ge 12, 3) := by decide +kernel
theorem dX6_x_13 : decode cX6_x 13 = .ok (.aload_n 0, 1) := by decide +kernel
theorem dX6_x_14 : decode cX6_x 14 = .ok (.getfield 15, 3) := by decide +kernel
theorem dX6_x_17 : decode cX6_x 17 = .ok (.iload_n 1, 1) := by decide +kernel
theorem dX6_x_18 : decode cX6_x 18 = .ok (.iaload, 1) := by decide +kernel
theorem dX6_x_19 : decode cX6_x 19 = .ok (.goto 4, 3) := by decide +kernel
theorem dX6_x_22 : decode cX6_x 22 = .ok (.iconst 0, 1) := by decide +kernel
theorem dX6_x_23 : decode cX6_x 23 = .ok (.ireturn, 1) := by decide +kernel
abbrev rmX6_x : Room := { frames := 0, cells := 0, slots := 0, locals := 0 }
abbrev sX6_x (E : EV) : List AV → AH → (Option AV → AH → Prop) → Prop := Spec E yX6_x cX6_x 2 (some .int) rmX6_x
theorem mX6_x : Mt yX6_x cX6_x 2 (some .int) 1 := ⟨k443, k2, by decide +kernel⟩
theorem vX6_x : MtV yX6_x 6 := ⟨k441, k442, by decide, (RX6, TX6, 9), rfl, rfl⟩
def PX6_x_0 (E : EV) (post : Option AV → AH → Prop) (h : AH) (l0 : Option Nat) (l1 : Int32) : Prop :=
  (l1 < 0 → post (some (aI (0 : Int32))) h) ∧ (¬ l1 < 0 → rdP h l0 6 1 fun x1 => alenI h x1 0 fun x2 => (x2 ≤ l1 → post (some (aI (0 : Int32))) h) ∧ (¬ x2 ≤ l1 → rdP h l0 6 1 fun x3 => aldI h x3 0 l1 fun x4 => post (some (aI x4)) h))
theorem bX6_x_0 {E : EV} {X : AX} {post : Option AV → AH → Prop} (C : Cb E X cX6_x RX6 2 rmX6_x) (D : Cr E X (some .int) rmX6_x "x" post) {h : AH} {l0 : Option Nat} {l1 : Int32} (w : PX6_x_0 E post h l0 l1) : Go E X 2 0 0 0 [(0, aP l0), (1, aI l1)] [] h := by
  unfold PX6_x_0 at w
  refine r_iload_n C dX6_x_0 rfl 1 rfl ?_
  refine r_if_lt C dX6_x_1 (tgt := 22) rfl (fun hc => ?_) (fun hc => ?_)
  · have w := w.1 hc
    refine r_iconst (v := 0) C dX6_x_22 rfl ?_
    exact r_iret C D rfl (Nat.zero_le _) (Nat.zero_le _) dX6_x_23 w
  · have w := w.2 hc
    refine r_iload_n C dX6_x_4 rfl 1 rfl ?_
    refine r_aload_n C dX6_x_5 rfl 0 rfl ?_
    refine r_getP C fcX6 (f := 1) (by decide) rfl k28 dX6_x_6 (w.mono fun x1 w => ?_)
    refine r_alenI 0 0 rfl C dX6_x_9 (w.mono fun x2 w => ?_)
    refine r_icmp_ge C dX6_x_10 (tgt := 22) rfl (fun hc => ?_) (fun hc => ?_)
    · have w := w.1 hc
      refine r_iconst (v := 0) C dX6_x_22 rfl ?_
      exact r_iret C D rfl (Nat.zero_le _) (Nat.zero_le _) dX6_x_23 w
    · have w := w.2 hc
      refine r_aload_n C dX6_x_13 rfl 0 rfl ?_
      refine r_getP C fcX6 (f := 1) (by decide) rfl k28 dX6_x_14 (w.mono fun x3 w => ?_)
      refine r_iload_n C dX6_x_17 rfl 1 rfl ?_
      refine r_iald C dX6_x_18 (w.mono fun x4 w => ?_)
      refine r_goto C dX6_x_19 (tgt := 23) rfl ?_
      exact r_iret C D rfl (Nat.zero_le _) (Nat.zero_le _) dX6_x_23 w
theorem eX6_x {E : EV} {post : Option AV → AH → Prop} {h : AH} {l0 : Option Nat} {l1 : Int32} (w : PX6_x_0 E post h l0 l1) : sX6_x E [aP l0, aI l1] h post := Spec.of RX6 rfl rfl (Nat.le_of_ble_eq_true rfl) fun X C D => bX6_x_0 C D w
theorem dX6_y_0 : decode cX6_y 0 = .ok (.iload_n 1, 1) := by decide +kernel
theorem dX6_y_1 : decode cX6_y 1 = .ok (.ifCond .lt 21, 3) := by decide +kernel
theorem dX6_y_4 : decode cX6_y 4 = .ok (.iload_n 1, 1) := by decide +kernel
theorem dX6_y_5 : decode cX6_y 5 = .ok (.aload_n 0, 1) := by decide +kernel
theorem dX6_y_6 : decode cX6_y 6 = .ok (.getfield 18, 3) := by decide +kernel
theorem dX6_y_9 : decode cX6_y 9 = .ok (.arraylength, 1) := by decide +kernel
theorem dX6_y_10 : decode cX6_y 10 = .ok (.if_icmp .ge 12, 3) := by decide +kernel
theorem dX6_y_13 : decode cX6_y 13 = .ok (.aload_n 0, 1) := by decide +kernel
theorem dX6_y_14 : decode cX6_y 14 = .ok (.getfield 18, 3) := by decide +kernel
theorem dX6_y_17 : decode cX6_y 17 = .ok (.iload_n 1, 1) := by decide +kernel
theorem dX6_y_18 : decode cX6_y 18 = .ok (.iaload, 1) := by decide +kernel
theorem dX6_y_19 : decode cX6_y 19 = .ok (.goto 4, 3) := by decide +kernel
theorem dX6_y_22 : decode cX6_y 22 = .ok (.iconst 0, 1) := by decide +kernel
theorem dX6_y_23 : decode cX6_y 23 = .ok (.ireturn, 1) := by decide +kernel
abbrev rmX6_y : Room := { frames := 0, cells := 0, slots := 0, locals := 0 }
abbrev sX6_y (E : EV) : List AV → AH → (Option AV → AH → Prop) → Prop := Spec E yX6_y cX6_y 2 (some .int) rmX6_y
theorem mX6_y : Mt yX6_y cX6_y 2 (some .int) 1 := ⟨k447, k2, by decide +kernel⟩
theorem vX6_y : MtV yX6_y 6 := ⟨k445, k446, by decide, (RX6, TX6, 9), rfl, rfl⟩
def PX6_y_0 (E : EV) (post : Option AV → AH → Prop) (h : AH) (l0 : Option Nat) (l1 : Int32) : Prop :=
  (l1 < 0 → post (some (aI (0 : Int32))) h) ∧ (¬ l1 < 0 → rdP h l0 6 2 fun x1 => alenI h x1 0 fun x2 => (x2 ≤ l1 → post (some (aI (0 : Int32))) h) ∧ (¬ x2 ≤ l1 → rdP h l0 6 2 fun x3 => aldI h x3 0 l1 fun x4 => post (some (aI x4)) h))
theorem bX6_y_0 {E : EV} {X : AX} {post : Option AV → AH → Prop} (C : Cb E X cX6_y RX6 2 rmX6_y) (D : Cr E X (some .int) rmX6_y "y" post) {h : AH} {l0 : Option Nat} {l1 : Int32} (w : PX6_y_0 E post h l0 l1) : Go E X 2 0 0 0 [(0, aP l0), (1, aI l1)] [] h := by
  unfold PX6_y_0 at w
  refine r_iload_n C dX6_y_0 rfl 1 rfl ?_
  refine r_if_lt C dX6_y_1 (tgt := 22) rfl (fun hc => ?_) (fun hc => ?_)
  · have w := w.1 hc
    refine r_iconst (v := 0) C dX6_y_22 rfl ?_
    exact r_iret C D rfl (Nat.zero_le _) (Nat.zero_le _) dX6_y_23 w
  · have w := w.2 hc
    refine r_iload_n C dX6_y_4 rfl 1 rfl ?_
    refine r_aload_n C dX6_y_5 rfl 0 rfl ?_
    refine r_getP C fcX6 (f := 2) (by decide) rfl k29 dX6_y_6 (w.mono fun x1 w => ?_)
    refine r_alenI 0 0 rfl C dX6_y_9 (w.mono fun x2 w => ?_)
    refine r_icmp_ge C dX6_y_10 (tgt := 22) rfl (fun hc => ?_) (fun hc => ?_)
    · have w := w.1 hc
      refine r_iconst (v := 0) C dX6_y_22 rfl ?_
      exact r_iret C D rfl (Nat.zero_le _) (Nat.zero_le _) dX6_y_23 w
    · have w := w.2 hc
      refine r_aload_n C dX6_y_13 rfl 0 rfl ?_
      refine r_getP C fcX6 (f := 2) (by decide) rfl k29 dX6_y_14 (w.mono fun x3 w => ?_)
      refine r_iload_n C dX6_y_17 rfl 1 rfl ?_
      refine r_iald C dX6_y_18 (w.mono fun x4 w => ?_)
      refine r_goto C dX6_y_19 (tgt := 23) rfl ?_
      exact r_iret C D rfl (Nat.zero_le _) (Nat.zero_le _) dX6_y_23 w
theorem eX6_y {E : EV} {post : Option AV → AH → Prop} {h : AH} {l0 : Option Nat} {l1 : Int32} (w : PX6_y_0 E post h l0 l1) : sX6_y E [aP l0, aI l1] h post := Spec.of RX6 rfl rfl (Nat.le_of_ble_eq_true rfl) fun X C D => bX6_y_0 C D w
theorem dX6_turnedX_0 : decode cX6_turnedX 0 = .ok (.iload_n 2, 1) := by decide +kernel
theorem dX6_turnedX_1 : decode cX6_turnedX 1 = .ok (.tableswitch 35 0 2 #[27, 29, 32], 27) := by decide +kernel
theorem dX6_turnedX_28 : decode cX6_turnedX 28 = .ok (.iload_n 0, 1) := by decide +kernel
theorem dX6_turnedX_29 : decode cX6_turnedX 29 = .ok (.ireturn, 1) := by decide +kernel
theorem dX6_turnedX_30 : decode cX6_turnedX 30 = .ok (.iload_n 1, 1) := by decide +kernel
theorem dX6_turnedX_31 : decode cX6_turnedX 31 = .ok (.ineg, 1) := by decide +kernel
theorem dX6_turnedX_32 : decode cX6_turnedX 32 = .ok (.ireturn, 1) := by decide +kernel
theorem dX6_turnedX_33 : decode cX6_turnedX 33 = .ok (.iload_n 0, 1) := by decide +kernel
theorem dX6_turnedX_34 : decode cX6_turnedX 34 = .ok (.ineg, 1) := by decide +kernel
theorem dX6_turnedX_35 : decode cX6_turnedX 35 = .ok (.ireturn, 1) := by decide +kernel
theorem dX6_turnedX_36 : decode cX6_turnedX 36 = .ok (.iload_n 1, 1) := by decide +kernel
theorem dX6_turnedX_37 : decode cX6_turnedX 37 = .ok (.ireturn, 1) := by decide +kernel
abbrev rmX6_turnedX : Room := { frames := 0, cells := 0, slots := 0, locals := 0 }
abbrev sX6_turnedX (E : EV) : List AV → AH → (Option AV → AH → Prop) → Prop := Spec E yX6_turnedX cX6_turnedX 3 (some .int) rmX6_turnedX
theorem mX6_turnedX : Mt yX6_turnedX cX6_turnedX 3 (some .int) 3 := ⟨k450, k2, by decide +kernel⟩
theorem vX6_turnedX : MtS yX6_turnedX := k449
def PX6_turnedX_0 (E : EV) (post : Option AV → AH → Prop) (h : AH) (l0 : Int32) (l1 : Int32) (l2 : Int32) : Prop :=
  (l2.toInt < 0 ∨ 2 < l2.toInt → post (some (aI l1)) h) ∧ (l2.toInt = 0 → post (some (aI l0)) h) ∧ (l2.toInt = 1 → post (some (aI (-l1))) h) ∧ (l2.toInt = 2 → post (some (aI (-l0))) h)
theorem bX6_turnedX_0 {E : EV} {X : AX} {post : Option AV → AH → Prop} (C : Cb E X cX6_turnedX RX6 3 rmX6_turnedX) (D : Cr E X (some .int) rmX6_turnedX "turnedX" post) {h : AH} {l0 : Int32} {l1 : Int32} {l2 : Int32} (w : PX6_turnedX_0 E post h l0 l1 l2) : Go E X 3 0 0 0 [(0, aI l0), (1, aI l1), (2, aI l2)] [] h := by
  unfold PX6_turnedX_0 at w
  refine r_iload_n C dX6_turnedX_0 rfl 2 rfl ?_
  by_cases ho : l2.toInt < 0 ∨ 2 < l2.toInt
  · refine r_tout C dX6_turnedX_1 ho (tgt := 36) rfl ?_
    have w := w.1 ho
    refine r_iload_n C dX6_turnedX_36 rfl 1 rfl ?_
    exact r_iret C D rfl (Nat.zero_le _) (Nat.zero_le _) dX6_turnedX_37 w
  have w := w.2
  by_cases ho0 : l2.toInt = 0
  · refine r_tin C dX6_turnedX_1 (by omega) (by omega) (off := 27) (by rw [ho0]; rfl) (tgt := 28) rfl ?_
    have w := w.1 ho0
    refine r_iload_n C dX6_turnedX_28 rfl 0 rfl ?_
    exact r_iret C D rfl (Nat.zero_le _) (Nat.zero_le _) dX6_turnedX_29 w
  have w := w.2
  by_cases ho1 : l2.toInt = 1
  · refine r_tin C dX6_turnedX_1 (by omega) (by omega) (off := 29) (by rw [ho1]; rfl) (tgt := 30) rfl ?_
    have w := w.1 ho1
    refine r_iload_n C dX6_turnedX_30 rfl 1 rfl ?_
    refine r_ineg C dX6_turnedX_31 ?_
    exact r_iret C D rfl (Nat.zero_le _) (Nat.zero_le _) dX6_turnedX_32 w
  have w := w.2
  have ho2 : l2.toInt = 2 := by omega
  refine r_tin C dX6_turnedX_1 (by omega) (by omega) (off := 32) (by rw [ho2]; rfl) (tgt := 33) rfl ?_
  have w := w ho2
  refine r_iload_n C dX6_turnedX_33 rfl 0 rfl ?_
  refine r_ineg C dX6_turnedX_34 ?_
  exact r_iret C D rfl (Nat.zero_le _) (Nat.zero_le _) dX6_turnedX_35 w
theorem eX6_turnedX {E : EV} {post : Option AV → AH → Prop} {h : AH} {l0 : Int32} {l1 : Int32} {l2 : Int32} (w : PX6_turnedX_0 E post h l0 l1 l2) : sX6_turnedX E [aI l0, aI l1, aI l2] h post := Spec.of RX6 rfl rfl (Nat.le_of_ble_eq_true rfl) fun X C D => bX6_turnedX_0 C D w
theorem dX6_turnedY_0 : decode cX6_turnedY 0 = .ok (.iload_n 1, 1) := by decide +kernel
theorem dX6_turnedY_1 : decode cX6_turnedY 1 = .ok (.iload_n 0, 1) := by decide +kernel
theorem dX6_turnedY_2 : decode cX6_turnedY 2 = .ok (.ineg, 1) := by decide +kernel
theorem dX6_turnedY_3 : decode cX6_turnedY 3 = .ok (.iload_n 2, 1) := by decide +kernel
theorem dX6_turnedY_4 : decode cX6_turnedY 4 = .ok (.invokestatic 55, 3) := by decide +kernel
theorem dX6_turnedY_7 : decode cX6_turnedY 7 = .ok (.ireturn, 1) := by decide +kernel
abbrev rmX6_turnedY : Room := { frames := 1, cells := 0, slots := 0, locals := 40 }
abbrev sX6_turnedY (E : EV) : List AV → AH → (Option AV → AH → Prop) → Prop := Spec E yX6_turnedY cX6_turnedY 3 (some .int) rmX6_turnedY
theorem mX6_turnedY : Mt yX6_turnedY cX6_turnedY 3 (some .int) 3 := ⟨k453, k2, by decide +kernel⟩
theorem vX6_turnedY : MtS yX6_turnedY := k452
def PX6_turnedY_0 (E : EV) (post : Option AV → AH → Prop) (h : AH) (l0 : Int32) (l1 : Int32) (l2 : Int32) : Prop :=
  CS (sX6_turnedX E) [aI l1, aI (-l0), aI l2] h (kI fun x1 h2 => post (some (aI x1)) h2)
theorem bX6_turnedY_0 {E : EV} {X : AX} {post : Option AV → AH → Prop} (C : Cb E X cX6_turnedY RX6 3 rmX6_turnedY) (D : Cr E X (some .int) rmX6_turnedY "turnedY" post) {h : AH} {l0 : Int32} {l1 : Int32} {l2 : Int32} (w : PX6_turnedY_0 E post h l0 l1 l2) : Go E X 3 0 0 0 [(0, aI l0), (1, aI l1), (2, aI l2)] [] h := by
  unfold PX6_turnedY_0 at w
  refine r_iload_n C dX6_turnedY_0 rfl 1 rfl ?_
  refine r_iload_n C dX6_turnedY_1 rfl 0 rfl ?_
  refine r_ineg C dX6_turnedY_2 ?_
  refine r_iload_n C dX6_turnedY_3 rfl 2 rfl ?_
  refine r_csI (rm' := rmX6_turnedX) C mX6_turnedX vX6_turnedX k448 [aI l1, aI (-l0), aI l2] [] rfl rfl (Nat.le_of_ble_eq_true rfl) (by decide) ⟨Nat.zero_le _, Nat.zero_le _⟩ 0 0 rfl rfl dX6_turnedY_4 w (fun x1 h2 w => ?_)
  exact r_iret C D rfl (Nat.zero_le _) (Nat.zero_le _) dX6_turnedY_7 w
theorem eX6_turnedY {E : EV} {post : Option AV → AH → Prop} {h : AH} {l0 : Int32} {l1 : Int32} {l2 : Int32} (w : PX6_turnedY_0 E post h l0 l1 l2) : sX6_turnedY E [aI l0, aI l1, aI l2] h post := Spec.of RX6 rfl rfl (Nat.le_of_ble_eq_true rfl) fun X C D => bX6_turnedY_0 C D w
theorem dX5_x_0 : decode cX5_x 0 = .ok (.aload_n 0, 1) := by decide +kernel
theorem dX5_x_1 : decode cX5_x 1 = .ok (.getfield 29, 3) := by decide +kernel
theorem dX5_x_4 : decode cX5_x 4 = .ok (.iload_n 1, 1) := by decide +kernel
theorem dX5_x_5 : decode cX5_x 5 = .ok (.iadd, 1) := by decide +kernel
theorem dX5_x_6 : decode cX5_x 6 = .ok (.istore_n 2, 1) := by decide +kernel
theorem dX5_x_7 : decode cX5_x 7 = .ok (.iload_n 2, 1) := by decide +kernel
theorem dX5_x_8 : decode cX5_x 8 = .ok (.aload_n 0, 1) := by decide +kernel
theorem dX5_x_9 : decode cX5_x 9 = .ok (.getfield 18, 3) := by decide +kernel
theorem dX5_x_12 : decode cX5_x 12 = .ok (.if_icmp .lt 10, 3) := by decide +kernel
theorem dX5_x_15 : decode cX5_x 15 = .ok (.iload_n 2, 1) := by decide +kernel
theorem dX5_x_16 : decode cX5_x 16 = .ok (.aload_n 0, 1) := by decide +kernel
theorem dX5_x_17 : decode cX5_x 17 = .ok (.getfield 18, 3) := by decide +kernel
theorem dX5_x_20 : decode cX5_x 20 = .ok (.isub, 1) := by decide +kernel
theorem dX5_x_21 : decode cX5_x 21 = .ok (.istore_n 2, 1) := by decide +kernel
theorem dX5_x_22 : decode cX5_x 22 = .ok (.iload_n 2, 1) := by decide +kernel
theorem dX5_x_23 : decode cX5_x 23 = .ok (.ifCond .lt 21, 3) := by decide +kernel
theorem dX5_x_26 : decode cX5_x 26 = .ok (.iload_n 2, 1) := by decide +kernel
theorem dX5_x_27 : decode cX5_x 27 = .ok (.aload_n 0, 1) := by decide +kernel
theorem dX5_x_28 : decode cX5_x 28 = .ok (.getfield 11, 3) := by decide +kernel
theorem dX5_x_31 : decode cX5_x 31 = .ok (.arraylength, 1) := by decide +kernel
theorem dX5_x_32 : decode cX5_x 32 = .ok (.if_icmp .ge 12, 3) := by decide +kernel
theorem dX5_x_35 : decode cX5_x 35 = .ok (.aload_n 0, 1) := by decide +kernel
theorem dX5_x_36 : decode cX5_x 36 = .ok (.getfield 11, 3) := by decide +kernel
theorem dX5_x_39 : decode cX5_x 39 = .ok (.iload_n 2, 1) := by decide +kernel
theorem dX5_x_40 : decode cX5_x 40 = .ok (.iaload, 1) := by decide +kernel
theorem dX5_x_41 : decode cX5_x 41 = .ok (.goto 4, 3) := by decide +kernel
theorem dX5_x_44 : decode cX5_x 44 = .ok (.iconst 0, 1) := by decide +kernel
theorem dX5_x_45 : decode cX5_x 45 = .ok (.ireturn, 1) := by decide +kernel
abbrev rmX5_x : Room := { frames := 0, cells := 0, slots := 0, locals := 0 }
abbrev sX5_x (E : EV) : List AV → AH → (Option AV → AH → Prop) → Prop := Spec E yX5_x cX5_x 3 (some .int) rmX5_x
theorem mX5_x : Mt yX5_x cX5_x 3 (some .int) 1 := ⟨k461, k5, by decide +kernel⟩
theorem vX5_x : MtV yX5_x 5 := ⟨k459, k460, by decide, (RX5, TX5, 8), rfl, rfl⟩
def PX5_x_22 (E : EV) (post : Option AV → AH → Prop) (h : AH) (l0 : Option Nat) (l2 : Int32) : Prop :=
  (l2 < 0 → post (some (aI (0 : Int32))) h) ∧ (¬ l2 < 0 → rdP h l0 5 0 fun x1 => alenI h x1 0 fun x2 => (x2 ≤ l2 → post (some (aI (0 : Int32))) h) ∧ (¬ x2 ≤ l2 → rdP h l0 5 0 fun x3 => aldI h x3 0 l2 fun x4 => post (some (aI x4)) h))
theorem bX5_x_22 {E : EV} {X : AX} {post : Option AV → AH → Prop} (C : Cb E X cX5_x RX5 3 rmX5_x) (D : Cr E X (some .int) rmX5_x "x" post) {h : AH} {l0 : Option Nat} {l2 : Int32} (w : PX5_x_22 E post h l0 l2) : Go E X 3 0 0 22 [(0, aP l0), (2, aI l2)] [] h := by
  unfold PX5_x_22 at w
  refine r_iload_n C dX5_x_22 rfl 1 rfl ?_
  refine r_if_lt C dX5_x_23 (tgt := 44) rfl (fun hc => ?_) (fun hc => ?_)
  · have w := w.1 hc
    refine r_iconst (v := 0) C dX5_x_44 rfl ?_
    exact r_iret C D rfl (Nat.zero_le _) (Nat.zero_le _) dX5_x_45 w
  · have w := w.2 hc
    refine r_iload_n C dX5_x_26 rfl 1 rfl ?_
    refine r_aload_n C dX5_x_27 rfl 0 rfl ?_
    refine r_getP C fcX5 (f := 0) (by decide) rfl k106 dX5_x_28 (w.mono fun x1 w => ?_)
    refine r_alenI 0 0 rfl C dX5_x_31 (w.mono fun x2 w => ?_)
    refine r_icmp_ge C dX5_x_32 (tgt := 44) rfl (fun hc => ?_) (fun hc => ?_)
    · have w := w.1 hc
      refine r_iconst (v := 0) C dX5_x_44 rfl ?_
      exact r_iret C D rfl (Nat.zero_le _) (Nat.zero_le _) dX5_x_45 w
    · have w := w.2 hc
      refine r_aload_n C dX5_x_35 rfl 0 rfl ?_
      refine r_getP C fcX5 (f := 0) (by decide) rfl k106 dX5_x_36 (w.mono fun x3 w => ?_)
      refine r_iload_n C dX5_x_39 rfl 1 rfl ?_
      refine r_iald C dX5_x_40 (w.mono fun x4 w => ?_)
      refine r_goto C dX5_x_41 (tgt := 45) rfl ?_
      exact r_iret C D rfl (Nat.zero_le _) (Nat.zero_le _) dX5_x_45 w
def PX5_x_0 (E : EV) (post : Option AV → AH → Prop) (h : AH) (l0 : Option Nat) (l1 : Int32) : Prop :=
  rdI h l0 5 3 fun x1 => ∀ v2, v2 = (x1 + l1) → rdI h l0 5 2 fun x3 => (v2 < x3 → PX5_x_22 E post h l0 v2) ∧ (¬ v2 < x3 → rdI h l0 5 2 fun x4 => ∀ v5, v5 = (v2 - x4) → PX5_x_22 E post h l0 v5)
theorem bX5_x_0 {E : EV} {X : AX} {post : Option AV → AH → Prop} (C : Cb E X cX5_x RX5 3 rmX5_x) (D : Cr E X (some .int) rmX5_x "x" post) {h : AH} {l0 : Option Nat} {l1 : Int32} (w : PX5_x_0 E post h l0 l1) : Go E X 3 0 0 0 [(0, aP l0), (1, aI l1)] [] h := by
  unfold PX5_x_0 at w
  refine r_aload_n C dX5_x_0 rfl 0 rfl ?_
  refine r_getI C fcX5 (f := 3) (by decide) rfl k110 dX5_x_1 (w.mono fun x1 w => ?_)
  refine r_iload_n C dX5_x_4 rfl 1 rfl ?_
  refine r_iadd C dX5_x_5 ?_
  refine r_istore_n C dX5_x_6 rfl (by decide) rfl ?_
  have w := w _ rfl
  refine r_iload_n C dX5_x_7 rfl 0 rfl ?_
  refine r_aload_n C dX5_x_8 rfl 1 rfl ?_
  refine r_getI C fcX5 (f := 2) (by decide) rfl k108 dX5_x_9 (w.mono fun x3 w => ?_)
  refine r_icmp_lt C dX5_x_12 (tgt := 22) rfl (fun hc => ?_) (fun hc => ?_)
  · have w := w.1 hc
    exact r_sub [1, 0] rfl (bX5_x_22 C D w)
  · have w := w.2 hc
    refine r_iload_n C dX5_x_15 rfl 0 rfl ?_
    refine r_aload_n C dX5_x_16 rfl 1 rfl ?_
    refine r_getI C fcX5 (f := 2) (by decide) rfl k108 dX5_x_17 (w.mono fun x4 w => ?_)
    refine r_isub C dX5_x_20 ?_
    refine r_istore_n C dX5_x_21 rfl (by decide) rfl ?_
    have w := w _ rfl
    skip
    exact r_sub [1, 0] rfl (bX5_x_22 C D w)
theorem eX5_x {E : EV} {post : Option AV → AH → Prop} {h : AH} {l0 : Option Nat} {l1 : Int32} (w : PX5_x_0 E post h l0 l1) : sX5_x E [aP l0, aI l1] h post := Spec.of RX5 rfl rfl (Nat.le_of_ble_eq_true rfl) fun X C D => bX5_x_0 C D w
theorem dX5_add_0 : decode cX5_add 0 = .ok (.aload_n 0, 1) := by decide +kernel
theorem dX5_add_1 : decode cX5_add 1 = .ok (.getfield 18, 3) := by decide +kernel
theorem dX5_add_4 : decode cX5_add 4 = .ok (.ifCond .lt 27, 3) := by decide +kernel
theorem dX5_add_7 : decode cX5_add 7 = .ok (.aload_n 0, 1) := by decide +kernel
theorem dX5_add_8 : decode cX5_add 8 = .ok (.getfield 18, 3) := by decide +kernel
theorem dX5_add_11 : decode cX5_add 11 = .ok (.aload_n 0, 1) := by decide +kernel
theorem dX5_add_12 : decode cX5_add 12 = .ok (.getfield 11, 3) := by decide +kernel
theorem dX5_add_15 : decode cX5_add 15 = .ok (.arraylength, 1) := by decide +kernel
theorem dX5_add_16 : decode cX5_add 16 = .ok (.if_icmp .ge 15, 3) := by decide +kernel
theorem dX5_add_19 : decode cX5_add 19 = .ok (.aload_n 0, 1) := by decide +kernel
theorem dX5_add_20 : decode cX5_add 20 = .ok (.getfield 18, 3) := by decide +kernel
theorem dX5_add_23 : decode cX5_add 23 = .ok (.aload_n 0, 1) := by decide +kernel
theorem dX5_add_24 : decode cX5_add 24 = .ok (.getfield 15, 3) := by decide +kernel
theorem dX5_add_27 : decode cX5_add 27 = .ok (.arraylength, 1) := by decide +kernel
theorem dX5_add_28 : decode cX5_add 28 = .ok (.if_icmp .lt 4, 3) := by decide +kernel
theorem dX5_add_31 : decode cX5_add 31 = .ok (.return_, 1) := by decide +kernel
theorem dX5_add_32 : decode cX5_add 32 = .ok (.aload_n 0, 1) := by decide +kernel
theorem dX5_add_33 : decode cX5_add 33 = .ok (.getfield 11, 3) := by decide +kernel
theorem dX5_add_36 : decode cX5_add 36 = .ok (.aload_n 0, 1) := by decide +kernel
theorem dX5_add_37 : decode cX5_add 37 = .ok (.getfield 18, 3) := by decide +kernel
theorem dX5_add_40 : decode cX5_add 40 = .ok (.iload_n 1, 1) := by decide +kernel
theorem dX5_add_41 : decode cX5_add 41 = .ok (.iastore, 1) := by decide +kernel
theorem dX5_add_42 : decode cX5_add 42 = .ok (.aload_n 0, 1) := by decide +kernel
theorem dX5_add_43 : decode cX5_add 43 = .ok (.getfield 15, 3) := by decide +kernel
theorem dX5_add_46 : decode cX5_add 46 = .ok (.aload_n 0, 1) := by decide +kernel
theorem dX5_add_47 : decode cX5_add 47 = .ok (.getfield 18, 3) := by decide +kernel
theorem dX5_add_50 : decode cX5_add 50 = .ok (.iload_n 2, 1) := by decide +kernel
theorem dX5_add_51 : decode cX5_add 51 = .ok (.iastore, 1) := by decide +kernel
theorem dX5_add_52 : decode cX5_add 52 = .ok (.aload_n 0, 1) := by decide +kernel
theorem dX5_add_53 : decode cX5_add 53 = .ok (.getfield 18, 3) := by decide +kernel
theorem dX5_add_56 : decode cX5_add 56 = .ok (.ifCond .ne 7, 3) := by decide +kernel
theorem dX5_add_59 : decode cX5_add 59 = .ok (.iconst 1, 1) := by decide +kernel
theorem dX5_add_60 : decode cX5_add 60 = .ok (.goto 4, 3) := by decide +kernel
theorem dX5_add_63 : decode cX5_add 63 = .ok (.iconst 0, 1) := by decide +kernel
theorem dX5_add_64 : decode cX5_add 64 = .ok (.istore_n 3, 1) := by decide +kernel
theorem dX5_add_65 : decode cX5_add 65 = .ok (.iload_n 3, 1) := by decide +kernel
theorem dX5_add_66 : decode cX5_add 66 = .ok (.ifCond .ne 28, 3) := by decide +kernel
theorem dX5_add_69 : decode cX5_add 69 = .ok (.iload_n 2, 1) := by decide +kernel
theorem dX5_add_70 : decode cX5_add 70 = .ok (.aload_n 0, 1) := by decide +kernel
theorem dX5_add_71 : decode cX5_add 71 = .ok (.getfield 22, 3) := by decide +kernel
theorem dX5_add_74 : decode cX5_add 74 = .ok (.if_icmp .lt 20, 3) := by decide +kernel
theorem dX5_add_77 : decode cX5_add 77 = .ok (.iload_n 2, 1) := by decide +kernel
theorem dX5_add_78 : decode cX5_add 78 = .ok (.aload_n 0, 1) := by decide +kernel
theorem dX5_add_79 : decode cX5_add 79 = .ok (.getfield 22, 3) := by decide +kernel
theorem dX5_add_82 : decode cX5_add 82 = .ok (.if_icmp .ne 20, 3) := by decide +kernel
theorem dX5_add_85 : decode cX5_add 85 = .ok (.iload_n 1, 1) := by decide +kernel
theorem dX5_add_86 : decode cX5_add 86 = .ok (.aload_n 0, 1) := by decide +kernel
theorem dX5_add_87 : decode cX5_add 87 = .ok (.iconst 0, 1) := by decide +kernel
theorem dX5_add_88 : decode cX5_add 88 = .ok (.invokevirtual 25, 3) := by decide +kernel
theorem dX5_add_91 : decode cX5_add 91 = .ok (.if_icmp .ge 11, 3) := by decide +kernel
theorem dX5_add_94 : decode cX5_add 94 = .ok (.aload_n 0, 1) := by decide +kernel
theorem dX5_add_95 : decode cX5_add 95 = .ok (.aload_n 0, 1) := by decide +kernel
theorem dX5_add_96 : decode cX5_add 96 = .ok (.getfield 18, 3) := by decide +kernel
theorem dX5_add_99 : decode cX5_add 99 = .ok (.putfield 29, 3) := by decide +kernel
theorem dX5_add_102 : decode cX5_add 102 = .ok (.aload_n 0, 1) := by decide +kernel
theorem dX5_add_103 : decode cX5_add 103 = .ok (.iload_n 3, 1) := by decide +kernel
theorem dX5_add_104 : decode cX5_add 104 = .ok (.ifCond .ne 11, 3) := by decide +kernel
theorem dX5_add_107 : decode cX5_add 107 = .ok (.iload_n 1, 1) := by decide +kernel
theorem dX5_add_108 : decode cX5_add 108 = .ok (.aload_n 0, 1) := by decide +kernel
theorem dX5_add_109 : decode cX5_add 109 = .ok (.getfield 32, 3) := by decide +kernel
theorem dX5_add_112 : decode cX5_add 112 = .ok (.if_icmp .ge 7, 3) := by decide +kernel
theorem dX5_add_115 : decode cX5_add 115 = .ok (.iload_n 1, 1) := by decide +kernel
theorem dX5_add_116 : decode cX5_add 116 = .ok (.goto 7, 3) := by decide +kernel
theorem dX5_add_119 : decode cX5_add 119 = .ok (.aload_n 0, 1) := by decide +kernel
theorem dX5_add_120 : decode cX5_add 120 = .ok (.getfield 32, 3) := by decide +kernel
theorem dX5_add_123 : decode cX5_add 123 = .ok (.putfield 32, 3) := by decide +kernel
theorem dX5_add_126 : decode cX5_add 126 = .ok (.aload_n 0, 1) := by decide +kernel
theorem dX5_add_127 : decode cX5_add 127 = .ok (.iload_n 3, 1) := by decide +kernel
theorem dX5_add_128 : decode cX5_add 128 = .ok (.ifCond .ne 11, 3) := by decide +kernel
theorem dX5_add_131 : decode cX5_add 131 = .ok (.iload_n 2, 1) := by decide +kernel
theorem dX5_add_132 : decode cX5_add 132 = .ok (.aload_n 0, 1) := by decide +kernel
theorem dX5_add_133 : decode cX5_add 133 = .ok (.getfield 22, 3) := by decide +kernel
theorem dX5_add_136 : decode cX5_add 136 = .ok (.if_icmp .ge 7, 3) := by decide +kernel
theorem dX5_add_139 : decode cX5_add 139 = .ok (.iload_n 2, 1) := by decide +kernel
theorem dX5_add_140 : decode cX5_add 140 = .ok (.goto 7, 3) := by decide +kernel
theorem dX5_add_143 : decode cX5_add 143 = .ok (.aload_n 0, 1) := by decide +kernel
theorem dX5_add_144 : decode cX5_add 144 = .ok (.getfield 22, 3) := by decide +kernel
theorem dX5_add_147 : decode cX5_add 147 = .ok (.putfield 22, 3) := by decide +kernel
theorem dX5_add_150 : decode cX5_add 150 = .ok (.aload_n 0, 1) := by decide +kernel
theorem dX5_add_151 : decode cX5_add 151 = .ok (.iload_n 3, 1) := by decide +kernel
theorem dX5_add_152 : decode cX5_add 152 = .ok (.ifCond .ne 11, 3) := by decide +kernel
theorem dX5_add_155 : decode cX5_add 155 = .ok (.iload_n 1, 1) := by decide +kernel
theorem dX5_add_156 : decode cX5_add 156 = .ok (.aload_n 0, 1) := by decide +kernel
theorem dX5_add_157 : decode cX5_add 157 = .ok (.getfield 35, 3) := by decide +kernel
theorem dX5_add_160 : decode cX5_add 160 = .ok (.if_icmp .le 7, 3) := by decide +kernel
theorem dX5_add_163 : decode cX5_add 163 = .ok (.iload_n 1, 1) := by decide +kernel
theorem dX5_add_164 : decode cX5_add 164 = .ok (.goto 7, 3) := by decide +kernel
theorem dX5_add_167 : decode cX5_add 167 = .ok (.aload_n 0, 1) := by decide +kernel
theorem dX5_add_168 : decode cX5_add 168 = .ok (.getfield 35, 3) := by decide +kernel
theorem dX5_add_171 : decode cX5_add 171 = .ok (.putfield 35, 3) := by decide +kernel
theorem dX5_add_174 : decode cX5_add 174 = .ok (.aload_n 0, 1) := by decide +kernel
theorem dX5_add_175 : decode cX5_add 175 = .ok (.iload_n 3, 1) := by decide +kernel
theorem dX5_add_176 : decode cX5_add 176 = .ok (.ifCond .ne 11, 3) := by decide +kernel
theorem dX5_add_179 : decode cX5_add 179 = .ok (.iload_n 2, 1) := by decide +kernel
theorem dX5_add_180 : decode cX5_add 180 = .ok (.aload_n 0, 1) := by decide +kernel
theorem dX5_add_181 : decode cX5_add 181 = .ok (.getfield 38, 3) := by decide +kernel
theorem dX5_add_184 : decode cX5_add 184 = .ok (.if_icmp .le 7, 3) := by decide +kernel
theorem dX5_add_187 : decode cX5_add 187 = .ok (.iload_n 2, 1) := by decide +kernel
theorem dX5_add_188 : decode cX5_add 188 = .ok (.goto 7, 3) := by decide +kernel
theorem dX5_add_191 : decode cX5_add 191 = .ok (.aload_n 0, 1) := by decide +kernel
theorem dX5_add_192 : decode cX5_add 192 = .ok (.getfield 38, 3) := by decide +kernel
theorem dX5_add_195 : decode cX5_add 195 = .ok (.putfield 38, 3) := by decide +kernel
theorem dX5_add_198 : decode cX5_add 198 = .ok (.aload_n 0, 1) := by decide +kernel
theorem dX5_add_199 : decode cX5_add 199 = .ok (.dup, 1) := by decide +kernel
theorem dX5_add_200 : decode cX5_add 200 = .ok (.getfield 18, 3) := by decide +kernel
theorem dX5_add_203 : decode cX5_add 203 = .ok (.iconst 1, 1) := by decide +kernel
theorem dX5_add_204 : decode cX5_add 204 = .ok (.iadd, 1) := by decide +kernel
theorem dX5_add_205 : decode cX5_add 205 = .ok (.putfield 18, 3) := by decide +kernel
theorem dX5_add_208 : decode cX5_add 208 = .ok (.return_, 1) := by decide +kernel
abbrev rmX5_add : Room := { frames := 1, cells := 0, slots := 0, locals := 40 }
abbrev sX5_add (E : EV) : List AV → AH → (Option AV → AH → Prop) → Prop := Spec E yX5_add cX5_add 4 none rmX5_add
theorem mX5_add : Mt yX5_add cX5_add 4 none 2 := ⟨k457, k5, by decide +kernel⟩
theorem vX5_add : MtV yX5_add 5 := ⟨k455, k456, by decide, (RX5, TX5, 8), rfl, rfl⟩
def PX5_add_195 (E : EV) (post : Option AV → AH → Prop) (h : AH) (l0 : Option Nat) (s0 : Option Nat) (s1 : Int32) : Prop :=
  wr h s0 5 7 (aI s1) fun h1 => rdI h1 l0 5 2 fun x2 => wr h1 l0 5 2 (aI (x2 + (1 : Int32))) fun h3 => post none h3
theorem bX5_add_195 {E : EV} {X : AX} {post : Option AV → AH → Prop} (C : Cb E X cX5_add RX5 4 rmX5_add) (D : Cr E X none rmX5_add "add" post) {h : AH} {l0 : Option Nat} {s0 : Option Nat} {s1 : Int32} (w : PX5_add_195 E post h l0 s0 s1) : Go E X 4 0 0 195 [(0, aP l0)] [aI s1, aP s0] h := by
  unfold PX5_add_195 at w
  refine r_put C fcX5 (f := 7) (by decide) rfl rfl rfl rfl k114 dX5_add_195 (w.mono fun h1 w => ?_)
  refine r_aload_n C dX5_add_198 rfl 0 rfl ?_
  refine r_dup C dX5_add_199 rfl ?_
  refine r_getI C fcX5 (f := 2) (by decide) rfl k108 dX5_add_200 (w.mono fun x2 w => ?_)
  refine r_iconst (v := 1) C dX5_add_203 rfl ?_
  refine r_iadd C dX5_add_204 ?_
  refine r_put C fcX5 (f := 2) (by decide) rfl rfl rfl rfl k108 dX5_add_205 (w.mono fun h3 w => ?_)
  exact r_vret C D rfl (Nat.zero_le _) (Nat.zero_le _) dX5_add_208 w
def PX5_add_187 (E : EV) (post : Option AV → AH → Prop) (h : AH) (l0 : Option Nat) (l2 : Int32) (s0 : Option Nat) : Prop :=
  PX5_add_195 E post h l0 s0 l2
theorem bX5_add_187 {E : EV} {X : AX} {post : Option AV → AH → Prop} (C : Cb E X cX5_add RX5 4 rmX5_add) (D : Cr E X none rmX5_add "add" post) {h : AH} {l0 : Option Nat} {l2 : Int32} {s0 : Option Nat} (w : PX5_add_187 E post h l0 l2 s0) : Go E X 4 0 0 187 [(0, aP l0), (2, aI l2)] [aP s0] h := by
  unfold PX5_add_187 at w
  refine r_iload_n C dX5_add_187 rfl 1 rfl ?_
  refine r_goto C dX5_add_188 (tgt := 195) rfl ?_
  exact r_sub [0] rfl (bX5_add_195 C D w)
def PX5_add_171 (E : EV) (post : Option AV → AH → Prop) (h : AH) (l0 : Option Nat) (l2 : Int32) (l3 : Int32) (s0 : Option Nat) (s1 : Int32) : Prop :=
  wr h s0 5 6 (aI s1) fun h1 => (¬ l3 = 0 → PX5_add_187 E post h1 l0 l2 l0) ∧ (l3 = 0 → rdI h1 l0 5 7 fun x2 => (l2 ≤ x2 → rdI h1 l0 5 7 fun x3 => PX5_add_195 E post h1 l0 l0 x3) ∧ (¬ l2 ≤ x2 → PX5_add_187 E post h1 l0 l2 l0))
theorem bX5_add_171 {E : EV} {X : AX} {post : Option AV → AH → Prop} (C : Cb E X cX5_add RX5 4 rmX5_add) (D : Cr E X none rmX5_add "add" post) {h : AH} {l0 : Option Nat} {l2 : Int32} {l3 : Int32} {s0 : Option Nat} {s1 : Int32} (w : PX5_add_171 E post h l0 l2 l3 s0 s1) : Go E X 4 0 0 171 [(0, aP l0), (2, aI l2), (3, aI l3)] [aI s1, aP s0] h := by
  unfold PX5_add_171 at w
  refine r_put C fcX5 (f := 6) (by decide) rfl rfl rfl rfl k113 dX5_add_171 (w.mono fun h1 w => ?_)
  refine r_aload_n C dX5_add_174 rfl 0 rfl ?_
  refine r_iload_n C dX5_add_175 rfl 2 rfl ?_
  refine r_if_ne C dX5_add_176 (tgt := 187) rfl (fun hc => ?_) (fun hc => ?_)
  · have w := w.1 hc
    exact r_sub [0, 1] rfl (bX5_add_187 C D w)
  · have w := w.2 hc
    refine r_iload_n C dX5_add_179 rfl 1 rfl ?_
    refine r_aload_n C dX5_add_180 rfl 0 rfl ?_
    refine r_getI C fcX5 (f := 7) (by decide) rfl k114 dX5_add_181 (w.mono fun x2 w => ?_)
    refine r_icmp_le C dX5_add_184 (tgt := 191) rfl (fun hc => ?_) (fun hc => ?_)
    · have w := w.1 hc
      refine r_aload_n C dX5_add_191 rfl 0 rfl ?_
      refine r_getI C fcX5 (f := 7) (by decide) rfl k114 dX5_add_192 (w.mono fun x3 w => ?_)
      exact r_sub [0] rfl (bX5_add_195 C D w)
    · have w := w.2 hc
      exact r_sub [0, 1] rfl (bX5_add_187 C D w)
def PX5_add_163 (E : EV) (post : Option AV → AH → Prop) (h : AH) (l0 : Option Nat) (l1 : Int32) (l2 : Int32) (l3 : Int32) (s0 : Option Nat) : Prop :=
  PX5_add_171 E post h l0 l2 l3 s0 l1
theorem bX5_add_163 {E : EV} {X : AX} {post : Option AV → AH → Prop} (C : Cb E X cX5_add RX5 4 rmX5_add) (D : Cr E X none rmX5_add "add" post) {h : AH} {l0 : Option Nat} {l1 : Int32} {l2 : Int32} {l3 : Int32} {s0 : Option Nat} (w : PX5_add_163 E post h l0 l1 l2 l3 s0) : Go E X 4 0 0 163 [(0, aP l0), (1, aI l1), (2, aI l2), (3, aI l3)] [aP s0] h := by
  unfold PX5_add_163 at w
  refine r_iload_n C dX5_add_163 rfl 1 rfl ?_
  refine r_goto C dX5_add_164 (tgt := 171) rfl ?_
  exact r_sub [0, 2, 3] rfl (bX5_add_171 C D w)
def PX5_add_147 (E : EV) (post : Option AV → AH → Prop) (h : AH) (l0 : Option Nat) (l1 : Int32) (l2 : Int32) (l3 : Int32) (s0 : Option Nat) (s1 : Int32) : Prop :=
  wr h s0 5 5 (aI s1) fun h1 => (¬ l3 = 0 → PX5_add_163 E post h1 l0 l1 l2 l3 l0) ∧ (l3 = 0 → rdI h1 l0 5 6 fun x2 => (l1 ≤ x2 → rdI h1 l0 5 6 fun x3 => PX5_add_171 E post h1 l0 l2 l3 l0 x3) ∧ (¬ l1 ≤ x2 → PX5_add_163 E post h1 l0 l1 l2 l3 l0))
theorem bX5_add_147 {E : EV} {X : AX} {post : Option AV → AH → Prop} (C : Cb E X cX5_add RX5 4 rmX5_add) (D : Cr E X none rmX5_add "add" post) {h : AH} {l0 : Option Nat} {l1 : Int32} {l2 : Int32} {l3 : Int32} {s0 : Option Nat} {s1 : Int32} (w : PX5_add_147 E post h l0 l1 l2 l3 s0 s1) : Go E X 4 0 0 147 [(0, aP l0), (1, aI l1), (2, aI l2), (3, aI l3)] [aI s1, aP s0] h := by
  unfold PX5_add_147 at w
  refine r_put C fcX5 (f := 5) (by decide) rfl rfl rfl rfl k112 dX5_add_147 (w.mono fun h1 w => ?_)
  refine r_aload_n C dX5_add_150 rfl 0 rfl ?_
  refine r_iload_n C dX5_add_151 rfl 3 rfl ?_
  refine r_if_ne C dX5_add_152 (tgt := 163) rfl (fun hc => ?_) (fun hc => ?_)
  · have w := w.1 hc
    exact (bX5_add_163 C D w)
  · have w := w.2 hc
    refine r_iload_n C dX5_add_155 rfl 1 rfl ?_
    refine r_aload_n C dX5_add_156 rfl 0 rfl ?_
    refine r_getI C fcX5 (f := 6) (by decide) rfl k113 dX5_add_157 (w.mono fun x2 w => ?_)
    refine r_icmp_le C dX5_add_160 (tgt := 167) rfl (fun hc => ?_) (fun hc => ?_)
    · have w := w.1 hc
      refine r_aload_n C dX5_add_167 rfl 0 rfl ?_
      refine r_getI C fcX5 (f := 6) (by decide) rfl k113 dX5_add_168 (w.mono fun x3 w => ?_)
      exact r_sub [0, 2, 3] rfl (bX5_add_171 C D w)
    · have w := w.2 hc
      exact (bX5_add_163 C D w)
def PX5_add_139 (E : EV) (post : Option AV → AH → Prop) (h : AH) (l0 : Option Nat) (l1 : Int32) (l2 : Int32) (l3 : Int32) (s0 : Option Nat) : Prop :=
  PX5_add_147 E post h l0 l1 l2 l3 s0 l2
theorem bX5_add_139 {E : EV} {X : AX} {post : Option AV → AH → Prop} (C : Cb E X cX5_add RX5 4 rmX5_add) (D : Cr E X none rmX5_add "add" post) {h : AH} {l0 : Option Nat} {l1 : Int32} {l2 : Int32} {l3 : Int32} {s0 : Option Nat} (w : PX5_add_139 E post h l0 l1 l2 l3 s0) : Go E X 4 0 0 139 [(0, aP l0), (1, aI l1), (2, aI l2), (3, aI l3)] [aP s0] h := by
  unfold PX5_add_139 at w
  refine r_iload_n C dX5_add_139 rfl 2 rfl ?_
  refine r_goto C dX5_add_140 (tgt := 147) rfl ?_
  exact (bX5_add_147 C D w)
def PX5_add_123 (E : EV) (post : Option AV → AH → Prop) (h : AH) (l0 : Option Nat) (l1 : Int32) (l2 : Int32) (l3 : Int32) (s0 : Option Nat) (s1 : Int32) : Prop :=
  wr h s0 5 4 (aI s1) fun h1 => (¬ l3 = 0 → PX5_add_139 E post h1 l0 l1 l2 l3 l0) ∧ (l3 = 0 → rdI h1 l0 5 5 fun x2 => (x2 ≤ l2 → rdI h1 l0 5 5 fun x3 => PX5_add_147 E post h1 l0 l1 l2 l3 l0 x3) ∧ (¬ x2 ≤ l2 → PX5_add_139 E post h1 l0 l1 l2 l3 l0))
theorem bX5_add_123 {E : EV} {X : AX} {post : Option AV → AH → Prop} (C : Cb E X cX5_add RX5 4 rmX5_add) (D : Cr E X none rmX5_add "add" post) {h : AH} {l0 : Option Nat} {l1 : Int32} {l2 : Int32} {l3 : Int32} {s0 : Option Nat} {s1 : Int32} (w : PX5_add_123 E post h l0 l1 l2 l3 s0 s1) : Go E X 4 0 0 123 [(0, aP l0), (1, aI l1), (2, aI l2), (3, aI l3)] [aI s1, aP s0] h := by
  unfold PX5_add_123 at w
  refine r_put C fcX5 (f := 4) (by decide) rfl rfl rfl rfl k111 dX5_add_123 (w.mono fun h1 w => ?_)
  refine r_aload_n C dX5_add_126 rfl 0 rfl ?_
  refine r_iload_n C dX5_add_127 rfl 3 rfl ?_
  refine r_if_ne C dX5_add_128 (tgt := 139) rfl (fun hc => ?_) (fun hc => ?_)
  · have w := w.1 hc
    exact (bX5_add_139 C D w)
  · have w := w.2 hc
    refine r_iload_n C dX5_add_131 rfl 2 rfl ?_
    refine r_aload_n C dX5_add_132 rfl 0 rfl ?_
    refine r_getI C fcX5 (f := 5) (by decide) rfl k112 dX5_add_133 (w.mono fun x2 w => ?_)
    refine r_icmp_ge C dX5_add_136 (tgt := 143) rfl (fun hc => ?_) (fun hc => ?_)
    · have w := w.1 hc
      refine r_aload_n C dX5_add_143 rfl 0 rfl ?_
      refine r_getI C fcX5 (f := 5) (by decide) rfl k112 dX5_add_144 (w.mono fun x3 w => ?_)
      exact (bX5_add_147 C D w)
    · have w := w.2 hc
      exact (bX5_add_139 C D w)
def PX5_add_115 (E : EV) (post : Option AV → AH → Prop) (h : AH) (l0 : Option Nat) (l1 : Int32) (l2 : Int32) (l3 : Int32) (s0 : Option Nat) : Prop :=
  PX5_add_123 E post h l0 l1 l2 l3 s0 l1
theorem bX5_add_115 {E : EV} {X : AX} {post : Option AV → AH → Prop} (C : Cb E X cX5_add RX5 4 rmX5_add) (D : Cr E X none rmX5_add "add" post) {h : AH} {l0 : Option Nat} {l1 : Int32} {l2 : Int32} {l3 : Int32} {s0 : Option Nat} (w : PX5_add_115 E post h l0 l1 l2 l3 s0) : Go E X 4 0 0 115 [(0, aP l0), (1, aI l1), (2, aI l2), (3, aI l3)] [aP s0] h := by
  unfold PX5_add_115 at w
  refine r_iload_n C dX5_add_115 rfl 1 rfl ?_
  refine r_goto C dX5_add_116 (tgt := 123) rfl ?_
  exact (bX5_add_123 C D w)
def PX5_add_102 (E : EV) (post : Option AV → AH → Prop) (h : AH) (l0 : Option Nat) (l1 : Int32) (l2 : Int32) (l3 : Int32) : Prop :=
  (¬ l3 = 0 → PX5_add_115 E post h l0 l1 l2 l3 l0) ∧ (l3 = 0 → rdI h l0 5 4 fun x1 => (x1 ≤ l1 → rdI h l0 5 4 fun x2 => PX5_add_123 E post h l0 l1 l2 l3 l0 x2) ∧ (¬ x1 ≤ l1 → PX5_add_115 E post h l0 l1 l2 l3 l0))
theorem bX5_add_102 {E : EV} {X : AX} {post : Option AV → AH → Prop} (C : Cb E X cX5_add RX5 4 rmX5_add) (D : Cr E X none rmX5_add "add" post) {h : AH} {l0 : Option Nat} {l1 : Int32} {l2 : Int32} {l3 : Int32} (w : PX5_add_102 E post h l0 l1 l2 l3) : Go E X 4 0 0 102 [(0, aP l0), (1, aI l1), (2, aI l2), (3, aI l3)] [] h := by
  unfold PX5_add_102 at w
  refine r_aload_n C dX5_add_102 rfl 0 rfl ?_
  refine r_iload_n C dX5_add_103 rfl 3 rfl ?_
  refine r_if_ne C dX5_add_104 (tgt := 115) rfl (fun hc => ?_) (fun hc => ?_)
  · have w := w.1 hc
    exact (bX5_add_115 C D w)
  · have w := w.2 hc
    refine r_iload_n C dX5_add_107 rfl 1 rfl ?_
    refine r_aload_n C dX5_add_108 rfl 0 rfl ?_
    refine r_getI C fcX5 (f := 4) (by decide) rfl k111 dX5_add_109 (w.mono fun x1 w => ?_)
    refine r_icmp_ge C dX5_add_112 (tgt := 119) rfl (fun hc => ?_) (fun hc => ?_)
    · have w := w.1 hc
      refine r_aload_n C dX5_add_119 rfl 0 rfl ?_
      refine r_getI C fcX5 (f := 4) (by decide) rfl k111 dX5_add_120 (w.mono fun x2 w => ?_)
      exact (bX5_add_123 C D w)
    · have w := w.2 hc
      exact (bX5_add_115 C D w)
def PX5_add_94 (E : EV) (post : Option AV → AH → Prop) (h : AH) (l0 : Option Nat) (l1 : Int32) (l2 : Int32) (l3 : Int32) : Prop :=
  rdI h l0 5 2 fun x1 => wr h l0 5 3 (aI x1) fun h2 => PX5_add_102 E post h2 l0 l1 l2 l3
theorem bX5_add_94 {E : EV} {X : AX} {post : Option AV → AH → Prop} (C : Cb E X cX5_add RX5 4 rmX5_add) (D : Cr E X none rmX5_add "add" post) {h : AH} {l0 : Option Nat} {l1 : Int32} {l2 : Int32} {l3 : Int32} (w : PX5_add_94 E post h l0 l1 l2 l3) : Go E X 4 0 0 94 [(0, aP l0), (1, aI l1), (2, aI l2), (3, aI l3)] [] h := by
  unfold PX5_add_94 at w
  refine r_aload_n C dX5_add_94 rfl 0 rfl ?_
  refine r_aload_n C dX5_add_95 rfl 0 rfl ?_
  refine r_getI C fcX5 (f := 2) (by decide) rfl k108 dX5_add_96 (w.mono fun x1 w => ?_)
  refine r_put C fcX5 (f := 3) (by decide) rfl rfl rfl rfl k110 dX5_add_99 (w.mono fun h2 w => ?_)
  exact (bX5_add_102 C D w)
def PX5_add_64 (E : EV) (post : Option AV → AH → Prop) (h : AH) (l0 : Option Nat) (l1 : Int32) (l2 : Int32) (s0 : Int32) : Prop :=
  (¬ s0 = 0 → PX5_add_94 E post h l0 l1 l2 s0) ∧ (s0 = 0 → rdI h l0 5 5 fun x2 => (l2 < x2 → PX5_add_94 E post h l0 l1 l2 s0) ∧ (¬ l2 < x2 → rdI h l0 5 5 fun x3 => (¬ l2 = x3 → PX5_add_102 E post h l0 l1 l2 s0) ∧ (l2 = x3 → CV (sX5_x E) l0 5 [aI (0 : Int32)] h (kI fun x4 h5 => (x4 ≤ l1 → PX5_add_102 E post h5 l0 l1 l2 s0) ∧ (¬ x4 ≤ l1 → PX5_add_94 E post h5 l0 l1 l2 s0)))))
theorem bX5_add_64 {E : EV} {X : AX} {post : Option AV → AH → Prop} (C : Cb E X cX5_add RX5 4 rmX5_add) (D : Cr E X none rmX5_add "add" post) {h : AH} {l0 : Option Nat} {l1 : Int32} {l2 : Int32} {s0 : Int32} (w : PX5_add_64 E post h l0 l1 l2 s0) : Go E X 4 0 0 64 [(0, aP l0), (1, aI l1), (2, aI l2)] [aI s0] h := by
  unfold PX5_add_64 at w
  refine r_istore_n C dX5_add_64 rfl (by decide) rfl ?_
  refine r_iload_n C dX5_add_65 rfl 0 rfl ?_
  refine r_if_ne C dX5_add_66 (tgt := 94) rfl (fun hc => ?_) (fun hc => ?_)
  · have w := w.1 hc
    exact r_sub [1, 2, 3, 0] rfl (bX5_add_94 C D w)
  · have w := w.2 hc
    refine r_iload_n C dX5_add_69 rfl 3 rfl ?_
    refine r_aload_n C dX5_add_70 rfl 1 rfl ?_
    refine r_getI C fcX5 (f := 5) (by decide) rfl k112 dX5_add_71 (w.mono fun x2 w => ?_)
    refine r_icmp_lt C dX5_add_74 (tgt := 94) rfl (fun hc => ?_) (fun hc => ?_)
    · have w := w.1 hc
      exact r_sub [1, 2, 3, 0] rfl (bX5_add_94 C D w)
    · have w := w.2 hc
      refine r_iload_n C dX5_add_77 rfl 3 rfl ?_
      refine r_aload_n C dX5_add_78 rfl 1 rfl ?_
      refine r_getI C fcX5 (f := 5) (by decide) rfl k112 dX5_add_79 (w.mono fun x3 w => ?_)
      refine r_icmp_ne C dX5_add_82 (tgt := 102) rfl (fun hc => ?_) (fun hc => ?_)
      · have w := w.1 hc
        exact r_sub [1, 2, 3, 0] rfl (bX5_add_102 C D w)
      · have w := w.2 hc
        refine r_iload_n C dX5_add_85 rfl 2 rfl ?_
        refine r_aload_n C dX5_add_86 rfl 1 rfl ?_
        refine r_iconst (v := 0) C dX5_add_87 rfl ?_
        refine r_cvI (rm' := rmX5_x) C mX5_x vX5_x k458 [aI (0 : Int32)] [aI l1] rfl rfl (Nat.le_of_ble_eq_true rfl) (by decide) ⟨Nat.zero_le _, Nat.zero_le _⟩ 0 0 rfl rfl dX5_add_88 w (fun x4 h5 w => ?_)
        refine r_icmp_ge C dX5_add_91 (tgt := 102) rfl (fun hc => ?_) (fun hc => ?_)
        · have w := w.1 hc
          exact r_sub [1, 2, 3, 0] rfl (bX5_add_102 C D w)
        · have w := w.2 hc
          exact r_sub [1, 2, 3, 0] rfl (bX5_add_94 C D w)
def PX5_add_0 (E : EV) (post : Option AV → AH → Prop) (h : AH) (l0 : Option Nat) (l1 : Int32) (l2 : Int32) : Prop :=
  rdI h l0 5 2 fun x1 => (x1 < 0 → post none h) ∧ (¬ x1 < 0 → rdI h l0 5 2 fun x2 => rdP h l0 5 0 fun x3 => alenI h x3 0 fun x4 => (x4 ≤ x2 → post none h) ∧ (¬ x4 ≤ x2 → rdI h l0 5 2 fun x5 => rdP h l0 5 1 fun x6 => alenI h x6 0 fun x7 => (x5 < x7 → rdP h l0 5 0 fun x8 => rdI h l0 5 2 fun x9 => astI h x8 0 x9 l1 fun h10 => rdP h10 l0 5 1 fun x11 => rdI h10 l0 5 2 fun x12 => astI h10 x11 0 x12 l2 fun h13 => rdI h13 l0 5 2 fun x14 => (¬ x14 = 0 → PX5_add_64 E post h13 l0 l1 l2 (0 : Int32)) ∧ (x14 = 0 → PX5_add_64 E post h13 l0 l1 l2 (1 : Int32))) ∧ (¬ x5 < x7 → post none h)))
theorem bX5_add_0 {E : EV} {X : AX} {post : Option AV → AH → Prop} (C : Cb E X cX5_add RX5 4 rmX5_add) (D : Cr E X none rmX5_add "add" post) {h : AH} {l0 : Option Nat} {l1 : Int32} {l2 : Int32} (w : PX5_add_0 E post h l0 l1 l2) : Go E X 4 0 0 0 [(0, aP l0), (1, aI l1), (2, aI l2)] [] h := by
  unfold PX5_add_0 at w
  refine r_aload_n C dX5_add_0 rfl 0 rfl ?_
  refine r_getI C fcX5 (f := 2) (by decide) rfl k108 dX5_add_1 (w.mono fun x1 w => ?_)
  refine r_if_lt C dX5_add_4 (tgt := 31) rfl (fun hc => ?_) (fun hc => ?_)
  · have w := w.1 hc
    exact r_vret C D rfl (Nat.zero_le _) (Nat.zero_le _) dX5_add_31 w
  · have w := w.2 hc
    refine r_aload_n C dX5_add_7 rfl 0 rfl ?_
    refine r_getI C fcX5 (f := 2) (by decide) rfl k108 dX5_add_8 (w.mono fun x2 w => ?_)
    refine r_aload_n C dX5_add_11 rfl 0 rfl ?_
    refine r_getP C fcX5 (f := 0) (by decide) rfl k106 dX5_add_12 (w.mono fun x3 w => ?_)
    refine r_alenI 0 0 rfl C dX5_add_15 (w.mono fun x4 w => ?_)
    refine r_icmp_ge C dX5_add_16 (tgt := 31) rfl (fun hc => ?_) (fun hc => ?_)
    · have w := w.1 hc
      exact r_vret C D rfl (Nat.zero_le _) (Nat.zero_le _) dX5_add_31 w
    · have w := w.2 hc
      refine r_aload_n C dX5_add_19 rfl 0 rfl ?_
      refine r_getI C fcX5 (f := 2) (by decide) rfl k108 dX5_add_20 (w.mono fun x5 w => ?_)
      refine r_aload_n C dX5_add_23 rfl 0 rfl ?_
      refine r_getP C fcX5 (f := 1) (by decide) rfl k107 dX5_add_24 (w.mono fun x6 w => ?_)
      refine r_alenI 0 0 rfl C dX5_add_27 (w.mono fun x7 w => ?_)
      refine r_icmp_lt C dX5_add_28 (tgt := 32) rfl (fun hc => ?_) (fun hc => ?_)
      · have w := w.1 hc
        refine r_aload_n C dX5_add_32 rfl 0 rfl ?_
        refine r_getP C fcX5 (f := 0) (by decide) rfl k106 dX5_add_33 (w.mono fun x8 w => ?_)
        refine r_aload_n C dX5_add_36 rfl 0 rfl ?_
        refine r_getI C fcX5 (f := 2) (by decide) rfl k108 dX5_add_37 (w.mono fun x9 w => ?_)
        refine r_iload_n C dX5_add_40 rfl 1 rfl ?_
        refine r_iast C dX5_add_41 (w.mono fun h10 w => ?_)
        refine r_aload_n C dX5_add_42 rfl 0 rfl ?_
        refine r_getP C fcX5 (f := 1) (by decide) rfl k107 dX5_add_43 (w.mono fun x11 w => ?_)
        refine r_aload_n C dX5_add_46 rfl 0 rfl ?_
        refine r_getI C fcX5 (f := 2) (by decide) rfl k108 dX5_add_47 (w.mono fun x12 w => ?_)
        refine r_iload_n C dX5_add_50 rfl 2 rfl ?_
        refine r_iast C dX5_add_51 (w.mono fun h13 w => ?_)
        refine r_aload_n C dX5_add_52 rfl 0 rfl ?_
        refine r_getI C fcX5 (f := 2) (by decide) rfl k108 dX5_add_53 (w.mono fun x14 w => ?_)
        refine r_if_ne C dX5_add_56 (tgt := 63) rfl (fun hc => ?_) (fun hc => ?_)
        · have w := w.1 hc
          refine r_iconst (v := 0) C dX5_add_63 rfl ?_
          exact (bX5_add_64 C D w)
        · have w := w.2 hc
          refine r_iconst (v := 1) C dX5_add_59 rfl ?_
          refine r_goto C dX5_add_60 (tgt := 64) rfl ?_
          exact (bX5_add_64 C D w)
      · have w := w.2 hc
        exact r_vret C D rfl (Nat.zero_le _) (Nat.zero_le _) dX5_add_31 w
theorem eX5_add {E : EV} {post : Option AV → AH → Prop} {h : AH} {l0 : Option Nat} {l1 : Int32} {l2 : Int32} (w : PX5_add_0 E post h l0 l1 l2) : sX5_add E [aP l0, aI l1, aI l2] h post := Spec.of RX5 rfl rfl (Nat.le_of_ble_eq_true rfl) fun X C D => bX5_add_0 C D w
theorem dX6_copyPiece_0 : decode cX6_copyPiece 0 = .ok (.aload_n 3, 1) := by decide +kernel
theorem dX6_copyPiece_1 : decode cX6_copyPiece 1 = .ok (.invokevirtual 62, 3) := by decide +kernel
theorem dX6_copyPiece_4 : decode cX6_copyPiece 4 = .ok (.aload_n 0, 1) := by decide +kernel
theorem dX6_copyPiece_5 : decode cX6_copyPiece 5 = .ok (.iload_n 1, 1) := by decide +kernel
theorem dX6_copyPiece_6 : decode cX6_copyPiece 6 = .ok (.invokevirtual 50, 3) := by decide +kernel
theorem dX6_copyPiece_9 : decode cX6_copyPiece 9 = .ok (.istore 4, 2) := by decide +kernel
theorem dX6_copyPiece_11 : decode cX6_copyPiece 11 = .ok (.iload 4, 2) := by decide +kernel
theorem dX6_copyPiece_13 : decode cX6_copyPiece 13 = .ok (.aload_n 0, 1) := by decide +kernel
theorem dX6_copyPiece_14 : decode cX6_copyPiece 14 = .ok (.iload_n 1, 1) := by decide +kernel
theorem dX6_copyPiece_15 : decode cX6_copyPiece 15 = .ok (.iconst 1, 1) := by decide +kernel
theorem dX6_copyPiece_16 : decode cX6_copyPiece 16 = .ok (.iadd, 1) := by decide +kernel
theorem dX6_copyPiece_17 : decode cX6_copyPiece 17 = .ok (.invokevirtual 50, 3) := by decide +kernel
theorem dX6_copyPiece_20 : decode cX6_copyPiece 20 = .ok (.if_icmp .ge 45, 3) := by decide +kernel
theorem dX6_copyPiece_23 : decode cX6_copyPiece 23 = .ok (.aload_n 3, 1) := by decide +kernel
theorem dX6_copyPiece_24 : decode cX6_copyPiece 24 = .ok (.aload_n 0, 1) := by decide +kernel
theorem dX6_copyPiece_25 : decode cX6_copyPiece 25 = .ok (.iload 4, 2) := by decide +kernel
theorem dX6_copyPiece_27 : decode cX6_copyPiece 27 = .ok (.invokevirtual 53, 3) := by decide +kernel
theorem dX6_copyPiece_30 : decode cX6_copyPiece 30 = .ok (.aload_n 0, 1) := by decide +kernel
theorem dX6_copyPiece_31 : decode cX6_copyPiece 31 = .ok (.iload 4, 2) := by decide +kernel
theorem dX6_copyPiece_33 : decode cX6_copyPiece 33 = .ok (.invokevirtual 54, 3) := by decide +kernel
theorem dX6_copyPiece_36 : decode cX6_copyPiece 36 = .ok (.iload_n 2, 1) := by decide +kernel
theorem dX6_copyPiece_37 : decode cX6_copyPiece 37 = .ok (.invokestatic 55, 3) := by decide +kernel
theorem dX6_copyPiece_40 : decode cX6_copyPiece 40 = .ok (.aload_n 0, 1) := by decide +kernel
theorem dX6_copyPiece_41 : decode cX6_copyPiece 41 = .ok (.iload 4, 2) := by decide +kernel
theorem dX6_copyPiece_43 : decode cX6_copyPiece 43 = .ok (.invokevirtual 53, 3) := by decide +kernel
theorem dX6_copyPiece_46 : decode cX6_copyPiece 46 = .ok (.aload_n 0, 1) := by decide +kernel
theorem dX6_copyPiece_47 : decode cX6_copyPiece 47 = .ok (.iload 4, 2) := by decide +kernel
theorem dX6_copyPiece_49 : decode cX6_copyPiece 49 = .ok (.invokevirtual 54, 3) := by decide +kernel
theorem dX6_copyPiece_52 : decode cX6_copyPiece 52 = .ok (.iload_n 2, 1) := by decide +kernel
theorem dX6_copyPiece_53 : decode cX6_copyPiece 53 = .ok (.invokestatic 59, 3) := by decide +kernel
theorem dX6_copyPiece_56 : decode cX6_copyPiece 56 = .ok (.invokevirtual 63, 3) := by decide +kernel
theorem dX6_copyPiece_59 : decode cX6_copyPiece 59 = .ok (.iinc 4 1, 3) := by decide +kernel
theorem dX6_copyPiece_62 : decode cX6_copyPiece 62 = .ok (.goto (-51), 3) := by decide +kernel
theorem dX6_copyPiece_65 : decode cX6_copyPiece 65 = .ok (.return_, 1) := by decide +kernel
abbrev rmX6_copyPiece : Room := { frames := 2, cells := 0, slots := 0, locals := 80 }
abbrev sX6_copyPiece (E : EV) : List AV → AH → (Option AV → AH → Prop) → Prop := Spec E yX6_copyPiece cX6_copyPiece 5 none rmX6_copyPiece
theorem mX6_copyPiece : Mt yX6_copyPiece cX6_copyPiece 5 none 3 := ⟨k431, k2, by decide +kernel⟩
theorem vX6_copyPiece : MtV yX6_copyPiece 6 := ⟨k429, k430, by decide, (RX6, TX6, 9), rfl, rfl⟩
def PX6_copyPiece_11 (E : EV) (post : Option AV → AH → Prop) (J11 : AH → Option Nat → Int32 → Int32 → Option Nat → Int32 → Prop) (h : AH) (l0 : Option Nat) (l1 : Int32) (l2 : Int32) (l3 : Option Nat) (l4 : Int32) : Prop :=
  CV (sX6_start E) l0 6 [aI (l1 + (1 : Int32))] h (kI fun x1 h2 => (x1 ≤ l4 → post none h2) ∧ (¬ x1 ≤ l4 → CV (sX6_x E) l0 6 [aI l4] h2 (kI fun x3 h4 => CV (sX6_y E) l0 6 [aI l4] h4 (kI fun x5 h6 => CS (sX6_turnedX E) [aI x3, aI x5, aI l2] h6 (kI fun x7 h8 => CV (sX6_x E) l0 6 [aI l4] h8 (kI fun x9 h10 => CV (sX6_y E) l0 6 [aI l4] h10 (kI fun x11 h12 => CS (sX6_turnedY E) [aI x9, aI x11, aI l2] h12 (kI fun x13 h14 => CV (sX5_add E) l3 5 [aI x7, aI x13] h14 (kV fun h16 => J11 h16 l0 l1 l2 l3 (l4 + (1 : Int32)))))))))))
theorem bX6_copyPiece_11 {E : EV} {X : AX} {post : Option AV → AH → Prop} (C : Cb E X cX6_copyPiece RX6 5 rmX6_copyPiece) (D : Cr E X none rmX6_copyPiece "copyPiece" post) {J11 : AH → Option Nat → Int32 → Int32 → Option Nat → Int32 → Prop} (g11 : ∀ (h : AH) (l0 : Option Nat) (l1 : Int32) (l2 : Int32) (l3 : Option Nat) (l4 : Int32), J11 h l0 l1 l2 l3 l4 → Go E X 5 0 0 11 [(0, aP l0), (1, aI l1), (2, aI l2), (3, aP l3), (4, aI l4)] [] h) {h : AH} {l0 : Option Nat} {l1 : Int32} {l2 : Int32} {l3 : Option Nat} {l4 : Int32} (w : PX6_copyPiece_11 E post J11 h l0 l1 l2 l3 l4) : Go E X 5 0 0 11 [(0, aP l0), (1, aI l1), (2, aI l2), (3, aP l3), (4, aI l4)] [] h := by
  unfold PX6_copyPiece_11 at w
  refine r_iload C dX6_copyPiece_11 4 rfl ?_
  refine r_aload_n C dX6_copyPiece_13 rfl 0 rfl ?_
  refine r_iload_n C dX6_copyPiece_14 rfl 1 rfl ?_
  refine r_iconst (v := 1) C dX6_copyPiece_15 rfl ?_
  refine r_iadd C dX6_copyPiece_16 ?_
  refine r_cvI (rm' := rmX6_start) C mX6_start vX6_start k436 [aI (l1 + (1 : Int32))] [aI l4] rfl rfl (Nat.le_of_ble_eq_true rfl) (by decide) ⟨Nat.zero_le _, Nat.zero_le _⟩ 0 0 rfl rfl dX6_copyPiece_17 w (fun x1 h2 w => ?_)
  refine r_icmp_ge C dX6_copyPiece_20 (tgt := 65) rfl (fun hc => ?_) (fun hc => ?_)
  · have w := w.1 hc
    exact r_vret C D rfl (Nat.zero_le _) (Nat.zero_le _) dX6_copyPiece_65 w
  · have w := w.2 hc
    refine r_aload_n C dX6_copyPiece_23 rfl 3 rfl ?_
    refine r_aload_n C dX6_copyPiece_24 rfl 0 rfl ?_
    refine r_iload C dX6_copyPiece_25 4 rfl ?_
    refine r_cvI (rm' := rmX6_x) C mX6_x vX6_x k440 [aI l4] [aP l3] rfl rfl (Nat.le_of_ble_eq_true rfl) (by decide) ⟨Nat.zero_le _, Nat.zero_le _⟩ 0 0 rfl rfl dX6_copyPiece_27 w (fun x3 h4 w => ?_)
    refine r_aload_n C dX6_copyPiece_30 rfl 0 rfl ?_
    refine r_iload C dX6_copyPiece_31 4 rfl ?_
    refine r_cvI (rm' := rmX6_y) C mX6_y vX6_y k444 [aI l4] [aI x3, aP l3] rfl rfl (Nat.le_of_ble_eq_true rfl) (by decide) ⟨Nat.zero_le _, Nat.zero_le _⟩ 0 0 rfl rfl dX6_copyPiece_33 w (fun x5 h6 w => ?_)
    refine r_iload_n C dX6_copyPiece_36 rfl 2 rfl ?_
    refine r_csI (rm' := rmX6_turnedX) C mX6_turnedX vX6_turnedX k448 [aI x3, aI x5, aI l2] [aP l3] rfl rfl (Nat.le_of_ble_eq_true rfl) (by decide) ⟨Nat.zero_le _, Nat.zero_le _⟩ 0 0 rfl rfl dX6_copyPiece_37 w (fun x7 h8 w => ?_)
    refine r_aload_n C dX6_copyPiece_40 rfl 0 rfl ?_
    refine r_iload C dX6_copyPiece_41 4 rfl ?_
    refine r_cvI (rm' := rmX6_x) C mX6_x vX6_x k440 [aI l4] [aI x7, aP l3] rfl rfl (Nat.le_of_ble_eq_true rfl) (by decide) ⟨Nat.zero_le _, Nat.zero_le _⟩ 0 0 rfl rfl dX6_copyPiece_43 w (fun x9 h10 w => ?_)
    refine r_aload_n C dX6_copyPiece_46 rfl 0 rfl ?_
    refine r_iload C dX6_copyPiece_47 4 rfl ?_
    refine r_cvI (rm' := rmX6_y) C mX6_y vX6_y k444 [aI l4] [aI x9, aI x7, aP l3] rfl rfl (Nat.le_of_ble_eq_true rfl) (by decide) ⟨Nat.zero_le _, Nat.zero_le _⟩ 0 0 rfl rfl dX6_copyPiece_49 w (fun x11 h12 w => ?_)
    refine r_iload_n C dX6_copyPiece_52 rfl 2 rfl ?_
    refine r_csI (rm' := rmX6_turnedY) C mX6_turnedY vX6_turnedY k451 [aI x9, aI x11, aI l2] [aI x7, aP l3] rfl rfl (Nat.le_of_ble_eq_true rfl) (by decide) ⟨Nat.zero_le _, Nat.zero_le _⟩ 0 0 rfl rfl dX6_copyPiece_53 w (fun x13 h14 w => ?_)
    refine r_cvV (rm' := rmX5_add) C mX5_add vX5_add k454 [aI x7, aI x13] [] rfl rfl (Nat.le_of_ble_eq_true rfl) (by decide) ⟨Nat.zero_le _, Nat.zero_le _⟩ 0 0 rfl rfl dX6_copyPiece_56 w (fun h16 w => ?_)
    refine r_iinc C dX6_copyPiece_59 4 rfl (v := 1) rfl (by decide) rfl ?_
    refine r_goto C dX6_copyPiece_62 (tgt := 11) rfl ?_
    exact r_sub [1, 2, 3, 4, 0] rfl (g11 h16 l0 l1 l2 l3 (l4 + (1 : Int32)) w)
theorem lpX6_copyPiece_11 {E : EV} {X : AX} {post : Option AV → AH → Prop} (C : Cb E X cX6_copyPiece RX6 5 rmX6_copyPiece) (D : Cr E X none rmX6_copyPiece "copyPiece" post) (I : Nat → AH → Option Nat → Int32 → Int32 → Option Nat → Int32 → Prop) (step : ∀ (z : Nat) (h : AH) (l0 : Option Nat) (l1 : Int32) (l2 : Int32) (l3 : Option Nat) (l4 : Int32), I z h l0 l1 l2 l3 l4 → PX6_copyPiece_11 E post (fun h l0 l1 l2 l3 l4 => ∃ z', z' < z ∧ I z' h l0 l1 l2 l3 l4) h l0 l1 l2 l3 l4) : ∀ (z : Nat) (h : AH) (l0 : Option Nat) (l1 : Int32) (l2 : Int32) (l3 : Option Nat) (l4 : Int32), I z h l0 l1 l2 l3 l4 → Go E X 5 0 0 11 [(0, aP l0), (1, aI l1), (2, aI l2), (3, aP l3), (4, aI l4)] [] h := by
  intro z
  induction z using Nat.strongRecOn with
  | _ z ih =>
    intro h l0 l1 l2 l3 l4 hI
    exact bX6_copyPiece_11 C D (fun h l0 l1 l2 l3 l4 hJ => by obtain ⟨z', hz, hi⟩ := hJ; exact ih z' hz h l0 l1 l2 l3 l4 hi) (step z h l0 l1 l2 l3 l4 hI)
def PX6_copyPiece_0 (E : EV) (post : Option AV → AH → Prop) (J11 : AH → Option Nat → Int32 → Int32 → Option Nat → Int32 → Prop) (h : AH) (l0 : Option Nat) (l1 : Int32) (l2 : Int32) (l3 : Option Nat) : Prop :=
  CV (sX5_clear E) l3 5 [] h (kV fun h2 => CV (sX6_start E) l0 6 [aI l1] h2 (kI fun x3 h4 => J11 h4 l0 l1 l2 l3 x3))
theorem bX6_copyPiece_0 {E : EV} {X : AX} {post : Option AV → AH → Prop} (C : Cb E X cX6_copyPiece RX6 5 rmX6_copyPiece) (D : Cr E X none rmX6_copyPiece "copyPiece" post) {J11 : AH → Option Nat → Int32 → Int32 → Option Nat → Int32 → Prop} (g11 : ∀ (h : AH) (l0 : Option Nat) (l1 : Int32) (l2 : Int32) (l3 : Option Nat) (l4 : Int32), J11 h l0 l1 l2 l3 l4 → Go E X 5 0 0 11 [(0, aP l0), (1, aI l1), (2, aI l2), (3, aP l3), (4, aI l4)] [] h) {h : AH} {l0 : Option Nat} {l1 : Int32} {l2 : Int32} {l3 : Option Nat} (w : PX6_copyPiece_0 E post J11 h l0 l1 l2 l3) : Go E X 5 0 0 0 [(0, aP l0), (1, aI l1), (2, aI l2), (3, aP l3)] [] h := by
  unfold PX6_copyPiece_0 at w
  refine r_aload_n C dX6_copyPiece_0 rfl 3 rfl ?_
  refine r_cvV (rm' := rmX5_clear) C mX5_clear vX5_clear k432 [] [] rfl rfl (Nat.le_of_ble_eq_true rfl) (by decide) ⟨Nat.zero_le _, Nat.zero_le _⟩ 0 0 rfl rfl dX6_copyPiece_1 w (fun h2 w => ?_)
  refine r_aload_n C dX6_copyPiece_4 rfl 0 rfl ?_
  refine r_iload_n C dX6_copyPiece_5 rfl 1 rfl ?_
  refine r_cvI (rm' := rmX6_start) C mX6_start vX6_start k436 [aI l1] [] rfl rfl (Nat.le_of_ble_eq_true rfl) (by decide) ⟨Nat.zero_le _, Nat.zero_le _⟩ 0 0 rfl rfl dX6_copyPiece_6 w (fun x3 h4 w => ?_)
  refine r_istore C dX6_copyPiece_9 (by decide) rfl ?_
  exact r_sub [1, 2, 3, 4, 0] rfl (g11 h4 l0 l1 l2 l3 x3 w)
theorem eX6_copyPiece {E : EV} {post : Option AV → AH → Prop} {h : AH} {l0 : Option Nat} {l1 : Int32} {l2 : Int32} {l3 : Option Nat} {J11 : AH → Option Nat → Int32 → Int32 → Option Nat → Int32 → Prop} (g11 : ∀ X : AX, Cb E X cX6_copyPiece RX6 5 rmX6_copyPiece → Cr E X none rmX6_copyPiece "copyPiece" post → ∀ (h : AH) (l0 : Option Nat) (l1 : Int32) (l2 : Int32) (l3 : Option Nat) (l4 : Int32), J11 h l0 l1 l2 l3 l4 → Go E X 5 0 0 11 [(0, aP l0), (1, aI l1), (2, aI l2), (3, aP l3), (4, aI l4)] [] h) (w : PX6_copyPiece_0 E post J11 h l0 l1 l2 l3) : sX6_copyPiece E [aP l0, aI l1, aI l2, aP l3] h post := Spec.of RX6 rfl rfl (Nat.le_of_ble_eq_true rfl) fun X C D => bX6_copyPiece_0 C D (g11 X C D) w
theorem dX5_y_0 : decode cX5_y 0 = .ok (.aload_n 0, 1) := by decide +kernel
theorem dX5_y_1 : decode cX5_y 1 = .ok (.getfield 29, 3) := by decide +kernel
theorem dX5_y_4 : decode cX5_y 4 = .ok (.iload_n 1, 1) := by decide +kernel
theorem dX5_y_5 : decode cX5_y 5 = .ok (.iadd, 1) := by decide +kernel
theorem dX5_y_6 : decode cX5_y 6 = .ok (.istore_n 2, 1) := by decide +kernel
theorem dX5_y_7 : decode cX5_y 7 = .ok (.iload_n 2, 1) := by decide +kernel
theorem dX5_y_8 : decode cX5_y 8 = .ok (.aload_n 0, 1) := by decide +kernel
theorem dX5_y_9 : decode cX5_y 9 = .ok (.getfield 18, 3) := by decide +kernel
theorem dX5_y_12 : decode cX5_y 12 = .ok (.if_icmp .lt 10, 3) := by decide +kernel
theorem dX5_y_15 : decode cX5_y 15 = .ok (.iload_n 2, 1) := by decide +kernel
theorem dX5_y_16 : decode cX5_y 16 = .ok (.aload_n 0, 1) := by decide +kernel
theorem dX5_y_17 : decode cX5_y 17 = .ok (.getfield 18, 3) := by decide +kernel
theorem dX5_y_20 : decode cX5_y 20 = .ok (.isub, 1) := by decide +kernel
theorem dX5_y_21 : decode cX5_y 21 = .ok (.istore_n 2, 1) := by decide +kernel
theorem dX5_y_22 : decode cX5_y 22 = .ok (.iload_n 2, 1) := by decide +kernel
theorem dX5_y_23 : decode cX5_y 23 = .ok (.ifCond .lt 21, 3) := by decide +kernel
theorem dX5_y_26 : decode cX5_y 26 = .ok (.iload_n 2, 1) := by decide +kernel
theorem dX5_y_27 : decode cX5_y 27 = .ok (.aload_n 0, 1) := by decide +kernel
theorem dX5_y_28 : decode cX5_y 28 = .ok (.getfield 15, 3) := by decide +kernel
theorem dX5_y_31 : decode cX5_y 31 = .ok (.arraylength, 1) := by decide +kernel
theorem dX5_y_32 : decode cX5_y 32 = .ok (.if_icmp .ge 12, 3) := by decide +kernel
theorem dX5_y_35 : decode cX5_y 35 = .ok (.aload_n 0, 1) := by decide +kernel
theorem dX5_y_36 : decode cX5_y 36 = .ok (.getfield 15, 3) := by decide +kernel
theorem dX5_y_39 : decode cX5_y 39 = .ok (.iload_n 2, 1) := by decide +kernel
theorem dX5_y_40 : decode cX5_y 40 = .ok (.iaload, 1) := by decide +kernel
theorem dX5_y_41 : decode cX5_y 41 = .ok (.goto 4, 3) := by decide +kernel
theorem dX5_y_44 : decode cX5_y 44 = .ok (.iconst 0, 1) := by decide +kernel
theorem dX5_y_45 : decode cX5_y 45 = .ok (.ireturn, 1) := by decide +kernel
abbrev rmX5_y : Room := { frames := 0, cells := 0, slots := 0, locals := 0 }
abbrev sX5_y (E : EV) : List AV → AH → (Option AV → AH → Prop) → Prop := Spec E yX5_y cX5_y 3 (some .int) rmX5_y
theorem mX5_y : Mt yX5_y cX5_y 3 (some .int) 1 := ⟨k470, k5, by decide +kernel⟩
theorem vX5_y : MtV yX5_y 5 := ⟨k468, k469, by decide, (RX5, TX5, 8), rfl, rfl⟩
def PX5_y_22 (E : EV) (post : Option AV → AH → Prop) (h : AH) (l0 : Option Nat) (l2 : Int32) : Prop :=
  (l2 < 0 → post (some (aI (0 : Int32))) h) ∧ (¬ l2 < 0 → rdP h l0 5 1 fun x1 => alenI h x1 0 fun x2 => (x2 ≤ l2 → post (some (aI (0 : Int32))) h) ∧ (¬ x2 ≤ l2 → rdP h l0 5 1 fun x3 => aldI h x3 0 l2 fun x4 => post (some (aI x4)) h))
theorem bX5_y_22 {E : EV} {X : AX} {post : Option AV → AH → Prop} (C : Cb E X cX5_y RX5 3 rmX5_y) (D : Cr E X (some .int) rmX5_y "y" post) {h : AH} {l0 : Option Nat} {l2 : Int32} (w : PX5_y_22 E post h l0 l2) : Go E X 3 0 0 22 [(0, aP l0), (2, aI l2)] [] h := by
  unfold PX5_y_22 at w
  refine r_iload_n C dX5_y_22 rfl 1 rfl ?_
  refine r_if_lt C dX5_y_23 (tgt := 44) rfl (fun hc => ?_) (fun hc => ?_)
  · have w := w.1 hc
    refine r_iconst (v := 0) C dX5_y_44 rfl ?_
    exact r_iret C D rfl (Nat.zero_le _) (Nat.zero_le _) dX5_y_45 w
  · have w := w.2 hc
    refine r_iload_n C dX5_y_26 rfl 1 rfl ?_
    refine r_aload_n C dX5_y_27 rfl 0 rfl ?_
    refine r_getP C fcX5 (f := 1) (by decide) rfl k107 dX5_y_28 (w.mono fun x1 w => ?_)
    refine r_alenI 0 0 rfl C dX5_y_31 (w.mono fun x2 w => ?_)
    refine r_icmp_ge C dX5_y_32 (tgt := 44) rfl (fun hc => ?_) (fun hc => ?_)
    · have w := w.1 hc
      refine r_iconst (v := 0) C dX5_y_44 rfl ?_
      exact r_iret C D rfl (Nat.zero_le _) (Nat.zero_le _) dX5_y_45 w
    · have w := w.2 hc
      refine r_aload_n C dX5_y_35 rfl 0 rfl ?_
      refine r_getP C fcX5 (f := 1) (by decide) rfl k107 dX5_y_36 (w.mono fun x3 w => ?_)
      refine r_iload_n C dX5_y_39 rfl 1 rfl ?_
      refine r_iald C dX5_y_40 (w.mono fun x4 w => ?_)
      refine r_goto C dX5_y_41 (tgt := 45) rfl ?_
      exact r_iret C D rfl (Nat.zero_le _) (Nat.zero_le _) dX5_y_45 w
def PX5_y_0 (E : EV) (post : Option AV → AH → Prop) (h : AH) (l0 : Option Nat) (l1 : Int32) : Prop :=
  rdI h l0 5 3 fun x1 => ∀ v2, v2 = (x1 + l1) → rdI h l0 5 2 fun x3 => (v2 < x3 → PX5_y_22 E post h l0 v2) ∧ (¬ v2 < x3 → rdI h l0 5 2 fun x4 => ∀ v5, v5 = (v2 - x4) → PX5_y_22 E post h l0 v5)
theorem bX5_y_0 {E : EV} {X : AX} {post : Option AV → AH → Prop} (C : Cb E X cX5_y RX5 3 rmX5_y) (D : Cr E X (some .int) rmX5_y "y" post) {h : AH} {l0 : Option Nat} {l1 : Int32} (w : PX5_y_0 E post h l0 l1) : Go E X 3 0 0 0 [(0, aP l0), (1, aI l1)] [] h := by
  unfold PX5_y_0 at w
  refine r_aload_n C dX5_y_0 rfl 0 rfl ?_
  refine r_getI C fcX5 (f := 3) (by decide) rfl k110 dX5_y_1 (w.mono fun x1 w => ?_)
  refine r_iload_n C dX5_y_4 rfl 1 rfl ?_
  refine r_iadd C dX5_y_5 ?_
  refine r_istore_n C dX5_y_6 rfl (by decide) rfl ?_
  have w := w _ rfl
  refine r_iload_n C dX5_y_7 rfl 0 rfl ?_
  refine r_aload_n C dX5_y_8 rfl 1 rfl ?_
  refine r_getI C fcX5 (f := 2) (by decide) rfl k108 dX5_y_9 (w.mono fun x3 w => ?_)
  refine r_icmp_lt C dX5_y_12 (tgt := 22) rfl (fun hc => ?_) (fun hc => ?_)
  · have w := w.1 hc
    exact r_sub [1, 0] rfl (bX5_y_22 C D w)
  · have w := w.2 hc
    refine r_iload_n C dX5_y_15 rfl 0 rfl ?_
    refine r_aload_n C dX5_y_16 rfl 1 rfl ?_
    refine r_getI C fcX5 (f := 2) (by decide) rfl k108 dX5_y_17 (w.mono fun x4 w => ?_)
    refine r_isub C dX5_y_20 ?_
    refine r_istore_n C dX5_y_21 rfl (by decide) rfl ?_
    have w := w _ rfl
    skip
    exact r_sub [1, 0] rfl (bX5_y_22 C D w)
theorem eX5_y {E : EV} {post : Option AV → AH → Prop} {h : AH} {l0 : Option Nat} {l1 : Int32} (w : PX5_y_0 E post h l0 l1) : sX5_y E [aP l0, aI l1] h post := Spec.of RX5 rfl rfl (Nat.le_of_ble_eq_true rfl) fun X C D => bX5_y_0 C D w
theorem dX5_turnBetween_0 : decode cX5_turnBetween 0 = .ok (.iload_n 1, 1) := by decide +kernel
theorem dX5_turnBetween_1 : decode cX5_turnBetween 1 = .ok (.aload_n 0, 1) := by decide +kernel
theorem dX5_turnBetween_2 : decode cX5_turnBetween 2 = .ok (.getfield 18, 3) := by decide +kernel
theorem dX5_turnBetween_5 : decode cX5_turnBetween 5 = .ok (.if_icmp .lt 5, 3) := by decide +kernel
theorem dX5_turnBetween_8 : decode cX5_turnBetween 8 = .ok (.iconst (-1), 1) := by decide +kernel
theorem dX5_turnBetween_9 : decode cX5_turnBetween 9 = .ok (.ireturn, 1) := by decide +kernel
theorem dX5_turnBetween_10 : decode cX5_turnBetween 10 = .ok (.iload_n 3, 1) := by decide +kernel
theorem dX5_turnBetween_11 : decode cX5_turnBetween 11 = .ok (.aload_n 2, 1) := by decide +kernel
theorem dX5_turnBetween_12 : decode cX5_turnBetween 12 = .ok (.getfield 18, 3) := by decide +kernel
theorem dX5_turnBetween_15 : decode cX5_turnBetween 15 = .ok (.if_icmp .lt 5, 3) := by decide +kernel
theorem dX5_turnBetween_18 : decode cX5_turnBetween 18 = .ok (.iconst 1, 1) := by decide +kernel
theorem dX5_turnBetween_19 : decode cX5_turnBetween 19 = .ok (.ireturn, 1) := by decide +kernel
theorem dX5_turnBetween_20 : decode cX5_turnBetween 20 = .ok (.aload_n 0, 1) := by decide +kernel
theorem dX5_turnBetween_21 : decode cX5_turnBetween 21 = .ok (.iload_n 1, 1) := by decide +kernel
theorem dX5_turnBetween_22 : decode cX5_turnBetween 22 = .ok (.iconst 1, 1) := by decide +kernel
theorem dX5_turnBetween_23 : decode cX5_turnBetween 23 = .ok (.iadd, 1) := by decide +kernel
theorem dX5_turnBetween_24 : decode cX5_turnBetween 24 = .ok (.invokevirtual 25, 3) := by decide +kernel
theorem dX5_turnBetween_27 : decode cX5_turnBetween 27 = .ok (.aload_n 0, 1) := by decide +kernel
theorem dX5_turnBetween_28 : decode cX5_turnBetween 28 = .ok (.iload_n 1, 1) := by decide +kernel
theorem dX5_turnBetween_29 : decode cX5_turnBetween 29 = .ok (.invokevirtual 25, 3) := by decide +kernel
theorem dX5_turnBetween_32 : decode cX5_turnBetween 32 = .ok (.isub, 1) := by decide +kernel
theorem dX5_turnBetween_33 : decode cX5_turnBetween 33 = .ok (.istore 4, 2) := by decide +kernel
theorem dX5_turnBetween_35 : decode cX5_turnBetween 35 = .ok (.aload_n 0, 1) := by decide +kernel
theorem dX5_turnBetween_36 : decode cX5_turnBetween 36 = .ok (.iload_n 1, 1) := by decide +kernel
theorem dX5_turnBetween_37 : decode cX5_turnBetween 37 = .ok (.iconst 1, 1) := by decide +kernel
theorem dX5_turnBetween_38 : decode cX5_turnBetween 38 = .ok (.iadd, 1) := by decide +kernel
theorem dX5_turnBetween_39 : decode cX5_turnBetween 39 = .ok (.invokevirtual 41, 3) := by decide +kernel
theorem dX5_turnBetween_42 : decode cX5_turnBetween 42 = .ok (.aload_n 0, 1) := by decide +kernel
theorem dX5_turnBetween_43 : decode cX5_turnBetween 43 = .ok (.iload_n 1, 1) := by decide +kernel
theorem dX5_turnBetween_44 : decode cX5_turnBetween 44 = .ok (.invokevirtual 41, 3) := by decide +kernel
theorem dX5_turnBetween_47 : decode cX5_turnBetween 47 = .ok (.isub, 1) := by decide +kernel
theorem dX5_turnBetween_48 : decode cX5_turnBetween 48 = .ok (.istore 5, 2) := by decide +kernel
theorem dX5_turnBetween_50 : decode cX5_turnBetween 50 = .ok (.aload_n 2, 1) := by decide +kernel
theorem dX5_turnBetween_51 : decode cX5_turnBetween 51 = .ok (.iload_n 3, 1) := by decide +kernel
theorem dX5_turnBetween_52 : decode cX5_turnBetween 52 = .ok (.iconst 1, 1) := by decide +kernel
theorem dX5_turnBetween_53 : decode cX5_turnBetween 53 = .ok (.iadd, 1) := by decide +kernel
theorem dX5_turnBetween_54 : decode cX5_turnBetween 54 = .ok (.invokevirtual 25, 3) := by decide +kernel
theorem dX5_turnBetween_57 : decode cX5_turnBetween 57 = .ok (.aload_n 2, 1) := by decide +kernel
theorem dX5_turnBetween_58 : decode cX5_turnBetween 58 = .ok (.iload_n 3, 1) := by decide +kernel
theorem dX5_turnBetween_59 : decode cX5_turnBetween 59 = .ok (.invokevirtual 25, 3) := by decide +kernel
theorem dX5_turnBetween_62 : decode cX5_turnBetween 62 = .ok (.isub, 1) := by decide +kernel
theorem dX5_turnBetween_63 : decode cX5_turnBetween 63 = .ok (.istore 6, 2) := by decide +kernel
theorem dX5_turnBetween_65 : decode cX5_turnBetween 65 = .ok (.aload_n 2, 1) := by decide +kernel
theorem dX5_turnBetween_66 : decode cX5_turnBetween 66 = .ok (.iload_n 3, 1) := by decide +kernel
theorem dX5_turnBetween_67 : decode cX5_turnBetween 67 = .ok (.iconst 1, 1) := by decide +kernel
theorem dX5_turnBetween_68 : decode cX5_turnBetween 68 = .ok (.iadd, 1) := by decide +kernel
theorem dX5_turnBetween_69 : decode cX5_turnBetween 69 = .ok (.invokevirtual 41, 3) := by decide +kernel
theorem dX5_turnBetween_72 : decode cX5_turnBetween 72 = .ok (.aload_n 2, 1) := by decide +kernel
theorem dX5_turnBetween_73 : decode cX5_turnBetween 73 = .ok (.iload_n 3, 1) := by decide +kernel
theorem dX5_turnBetween_74 : decode cX5_turnBetween 74 = .ok (.invokevirtual 41, 3) := by decide +kernel
theorem dX5_turnBetween_77 : decode cX5_turnBetween 77 = .ok (.isub, 1) := by decide +kernel
theorem dX5_turnBetween_78 : decode cX5_turnBetween 78 = .ok (.istore 7, 2) := by decide +kernel
theorem dX5_turnBetween_80 : decode cX5_turnBetween 80 = .ok (.iload 4, 2) := by decide +kernel
theorem dX5_turnBetween_82 : decode cX5_turnBetween 82 = .ok (.iload 7, 2) := by decide +kernel
theorem dX5_turnBetween_84 : decode cX5_turnBetween 84 = .ok (.imul, 1) := by decide +kernel
theorem dX5_turnBetween_85 : decode cX5_turnBetween 85 = .ok (.iload 5, 2) := by decide +kernel
theorem dX5_turnBetween_87 : decode cX5_turnBetween 87 = .ok (.iload 6, 2) := by decide +kernel
theorem dX5_turnBetween_89 : decode cX5_turnBetween 89 = .ok (.imul, 1) := by decide +kernel
theorem dX5_turnBetween_90 : decode cX5_turnBetween 90 = .ok (.isub, 1) := by decide +kernel
theorem dX5_turnBetween_91 : decode cX5_turnBetween 91 = .ok (.ireturn, 1) := by decide +kernel
abbrev rmX5_turnBetween : Room := { frames := 1, cells := 0, slots := 0, locals := 40 }
abbrev sX5_turnBetween (E : EV) : List AV → AH → (Option AV → AH → Prop) → Prop := Spec E yX5_turnBetween cX5_turnBetween 8 (some .int) rmX5_turnBetween
theorem mX5_turnBetween : Mt yX5_turnBetween cX5_turnBetween 8 (some .int) 4 := ⟨k474, k5, by decide +kernel⟩
theorem vX5_turnBetween : MtS yX5_turnBetween := k473
def PX5_turnBetween_0 (E : EV) (post : Option AV → AH → Prop) (h : AH) (l0 : Option Nat) (l1 : Int32) (l2 : Option Nat) (l3 : Int32) : Prop :=
  rdI h l0 5 2 fun x1 => (l1 < x1 → rdI h l2 5 2 fun x2 => (l3 < x2 → CV (sX5_x E) l0 5 [aI (l1 + (1 : Int32))] h (kI fun x3 h4 => CV (sX5_x E) l0 5 [aI l1] h4 (kI fun x5 h6 => ∀ v7, v7 = (x3 - x5) → CV (sX5_y E) l0 5 [aI (l1 + (1 : Int32))] h6 (kI fun x8 h9 => CV (sX5_y E) l0 5 [aI l1] h9 (kI fun x10 h11 => ∀ v12, v12 = (x8 - x10) → CV (sX5_x E) l2 5 [aI (l3 + (1 : Int32))] h11 (kI fun x13 h14 => CV (sX5_x E) l2 5 [aI l3] h14 (kI fun x15 h16 => ∀ v17, v17 = (x13 - x15) → CV (sX5_y E) l2 5 [aI (l3 + (1 : Int32))] h16 (kI fun x18 h19 => CV (sX5_y E) l2 5 [aI l3] h19 (kI fun x20 h21 => ∀ v22, v22 = (x18 - x20) → post (some (aI ((v7 * v22) - (v12 * v17)))) h21))))))))) ∧ (¬ l3 < x2 → post (some (aI (1 : Int32))) h)) ∧ (¬ l1 < x1 → post (some (aI (-1 : Int32))) h)
theorem bX5_turnBetween_0 {E : EV} {X : AX} {post : Option AV → AH → Prop} (C : Cb E X cX5_turnBetween RX5 8 rmX5_turnBetween) (D : Cr E X (some .int) rmX5_turnBetween "turnBetween" post) {h : AH} {l0 : Option Nat} {l1 : Int32} {l2 : Option Nat} {l3 : Int32} (w : PX5_turnBetween_0 E post h l0 l1 l2 l3) : Go E X 8 0 0 0 [(0, aP l0), (1, aI l1), (2, aP l2), (3, aI l3)] [] h := by
  unfold PX5_turnBetween_0 at w
  refine r_iload_n C dX5_turnBetween_0 rfl 1 rfl ?_
  refine r_aload_n C dX5_turnBetween_1 rfl 0 rfl ?_
  refine r_getI C fcX5 (f := 2) (by decide) rfl k108 dX5_turnBetween_2 (w.mono fun x1 w => ?_)
  refine r_icmp_lt C dX5_turnBetween_5 (tgt := 10) rfl (fun hc => ?_) (fun hc => ?_)
  · have w := w.1 hc
    refine r_iload_n C dX5_turnBetween_10 rfl 3 rfl ?_
    refine r_aload_n C dX5_turnBetween_11 rfl 2 rfl ?_
    refine r_getI C fcX5 (f := 2) (by decide) rfl k108 dX5_turnBetween_12 (w.mono fun x2 w => ?_)
    refine r_icmp_lt C dX5_turnBetween_15 (tgt := 20) rfl (fun hc => ?_) (fun hc => ?_)
    · have w := w.1 hc
      refine r_aload_n C dX5_turnBetween_20 rfl 0 rfl ?_
      refine r_iload_n C dX5_turnBetween_21 rfl 1 rfl ?_
      refine r_iconst (v := 1) C dX5_turnBetween_22 rfl ?_
      refine r_iadd C dX5_turnBetween_23 ?_
      refine r_cvI (rm' := rmX5_x) C mX5_x vX5_x k458 [aI (l1 + (1 : Int32))] [] rfl rfl (Nat.le_of_ble_eq_true rfl) (by decide) ⟨Nat.zero_le _, Nat.zero_le _⟩ 0 0 rfl rfl dX5_turnBetween_24 w (fun x3 h4 w => ?_)
      refine r_aload_n C dX5_turnBetween_27 rfl 0 rfl ?_
      refine r_iload_n C dX5_turnBetween_28 rfl 1 rfl ?_
      refine r_cvI (rm' := rmX5_x) C mX5_x vX5_x k458 [aI l1] [aI x3] rfl rfl (Nat.le_of_ble_eq_true rfl) (by decide) ⟨Nat.zero_le _, Nat.zero_le _⟩ 0 0 rfl rfl dX5_turnBetween_29 w (fun x5 h6 w => ?_)
      refine r_isub C dX5_turnBetween_32 ?_
      refine r_istore C dX5_turnBetween_33 (by decide) rfl ?_
      have w := w _ rfl
      skip
      refine r_aload_n C dX5_turnBetween_35 rfl 1 rfl ?_
      refine r_iload_n C dX5_turnBetween_36 rfl 2 rfl ?_
      refine r_iconst (v := 1) C dX5_turnBetween_37 rfl ?_
      refine r_iadd C dX5_turnBetween_38 ?_
      refine r_cvI (rm' := rmX5_y) C mX5_y vX5_y k467 [aI (l1 + (1 : Int32))] [] rfl rfl (Nat.le_of_ble_eq_true rfl) (by decide) ⟨Nat.zero_le _, Nat.zero_le _⟩ 0 0 rfl rfl dX5_turnBetween_39 w (fun x8 h9 w => ?_)
      refine r_aload_n C dX5_turnBetween_42 rfl 1 rfl ?_
      refine r_iload_n C dX5_turnBetween_43 rfl 2 rfl ?_
      refine r_cvI (rm' := rmX5_y) C mX5_y vX5_y k467 [aI l1] [aI x8] rfl rfl (Nat.le_of_ble_eq_true rfl) (by decide) ⟨Nat.zero_le _, Nat.zero_le _⟩ 0 0 rfl rfl dX5_turnBetween_44 w (fun x10 h11 w => ?_)
      refine r_isub C dX5_turnBetween_47 ?_
      refine r_istore C dX5_turnBetween_48 (by decide) rfl ?_
      have w := w _ rfl
      skip
      refine r_aload_n C dX5_turnBetween_50 rfl 4 rfl ?_
      refine r_iload_n C dX5_turnBetween_51 rfl 5 rfl ?_
      refine r_iconst (v := 1) C dX5_turnBetween_52 rfl ?_
      refine r_iadd C dX5_turnBetween_53 ?_
      refine r_cvI (rm' := rmX5_x) C mX5_x vX5_x k458 [aI (l3 + (1 : Int32))] [] rfl rfl (Nat.le_of_ble_eq_true rfl) (by decide) ⟨Nat.zero_le _, Nat.zero_le _⟩ 0 0 rfl rfl dX5_turnBetween_54 w (fun x13 h14 w => ?_)
      refine r_aload_n C dX5_turnBetween_57 rfl 4 rfl ?_
      refine r_iload_n C dX5_turnBetween_58 rfl 5 rfl ?_
      refine r_cvI (rm' := rmX5_x) C mX5_x vX5_x k458 [aI l3] [aI x13] rfl rfl (Nat.le_of_ble_eq_true rfl) (by decide) ⟨Nat.zero_le _, Nat.zero_le _⟩ 0 0 rfl rfl dX5_turnBetween_59 w (fun x15 h16 w => ?_)
      refine r_isub C dX5_turnBetween_62 ?_
      refine r_istore C dX5_turnBetween_63 (by decide) rfl ?_
      have w := w _ rfl
      skip
      refine r_aload_n C dX5_turnBetween_65 rfl 5 rfl ?_
      refine r_iload_n C dX5_turnBetween_66 rfl 6 rfl ?_
      refine r_iconst (v := 1) C dX5_turnBetween_67 rfl ?_
      refine r_iadd C dX5_turnBetween_68 ?_
      refine r_cvI (rm' := rmX5_y) C mX5_y vX5_y k467 [aI (l3 + (1 : Int32))] [] rfl rfl (Nat.le_of_ble_eq_true rfl) (by decide) ⟨Nat.zero_le _, Nat.zero_le _⟩ 0 0 rfl rfl dX5_turnBetween_69 w (fun x18 h19 w => ?_)
      refine r_aload_n C dX5_turnBetween_72 rfl 5 rfl ?_
      refine r_iload_n C dX5_turnBetween_73 rfl 6 rfl ?_
      refine r_cvI (rm' := rmX5_y) C mX5_y vX5_y k467 [aI l3] [aI x18] rfl rfl (Nat.le_of_ble_eq_true rfl) (by decide) ⟨Nat.zero_le _, Nat.zero_le _⟩ 0 0 rfl rfl dX5_turnBetween_74 w (fun x20 h21 w => ?_)
      refine r_isub C dX5_turnBetween_77 ?_
      refine r_istore C dX5_turnBetween_78 (by decide) rfl ?_
      have w := w _ rfl
      skip
      refine r_iload C dX5_turnBetween_80 3 rfl ?_
      refine r_iload C dX5_turnBetween_82 0 rfl ?_
      refine r_imul C dX5_turnBetween_84 ?_
      refine r_iload C dX5_turnBetween_85 2 rfl ?_
      refine r_iload C dX5_turnBetween_87 1 rfl ?_
      refine r_imul C dX5_turnBetween_89 ?_
      refine r_isub C dX5_turnBetween_90 ?_
      exact r_iret C D rfl (Nat.zero_le _) (Nat.zero_le _) dX5_turnBetween_91 w
    · have w := w.2 hc
      refine r_iconst (v := 1) C dX5_turnBetween_18 rfl ?_
      exact r_iret C D rfl (Nat.zero_le _) (Nat.zero_le _) dX5_turnBetween_19 w
  · have w := w.2 hc
    refine r_iconst (v := -1) C dX5_turnBetween_8 rfl ?_
    exact r_iret C D rfl (Nat.zero_le _) (Nat.zero_le _) dX5_turnBetween_9 w
theorem eX5_turnBetween {E : EV} {post : Option AV → AH → Prop} {h : AH} {l0 : Option Nat} {l1 : Int32} {l2 : Option Nat} {l3 : Int32} (w : PX5_turnBetween_0 E post h l0 l1 l2 l3) : sX5_turnBetween E [aP l0, aI l1, aP l2, aI l3] h post := Spec.of RX5 rfl rfl (Nat.le_of_ble_eq_true rfl) fun X C D => bX5_turnBetween_0 C D w
theorem dX5_setSum_0 : decode cX5_setSum 0 = .ok (.aload_n 0, 1) := by decide +kernel
theorem dX5_setSum_1 : decode cX5_setSum 1 = .ok (.invokevirtual 48, 3) := by decide +kernel
theorem dX5_setSum_4 : decode cX5_setSum 4 = .ok (.iconst 0, 1) := by decide +kernel
theorem dX5_setSum_5 : decode cX5_setSum 5 = .ok (.istore_n 3, 1) := by decide +kernel
theorem dX5_setSum_6 : decode cX5_setSum 6 = .ok (.iconst 0, 1) := by decide +kernel
theorem dX5_setSum_7 : decode cX5_setSum 7 = .ok (.istore 4, 2) := by decide +kernel
theorem dX5_setSum_9 : decode cX5_setSum 9 = .ok (.aload_n 1, 1) := by decide +kernel
theorem dX5_setSum_10 : decode cX5_setSum 10 = .ok (.getfield 18, 3) := by decide +kernel
theorem dX5_setSum_13 : decode cX5_setSum 13 = .ok (.aload_n 2, 1) := by decide +kernel
theorem dX5_setSum_14 : decode cX5_setSum 14 = .ok (.getfield 18, 3) := by decide +kernel
theorem dX5_setSum_17 : decode cX5_setSum 17 = .ok (.iadd, 1) := by decide +kernel
theorem dX5_setSum_18 : decode cX5_setSum 18 = .ok (.istore 5, 2) := by decide +kernel
theorem dX5_setSum_20 : decode cX5_setSum 20 = .ok (.iconst 0, 1) := by decide +kernel
theorem dX5_setSum_21 : decode cX5_setSum 21 = .ok (.istore 6, 2) := by decide +kernel
theorem dX5_setSum_23 : decode cX5_setSum 23 = .ok (.iload 6, 2) := by decide +kernel
theorem dX5_setSum_25 : decode cX5_setSum 25 = .ok (.iload 5, 2) := by decide +kernel
theorem dX5_setSum_27 : decode cX5_setSum 27 = .ok (.if_icmp .ge 80, 3) := by decide +kernel
theorem dX5_setSum_30 : decode cX5_setSum 30 = .ok (.iload_n 3, 1) := by decide +kernel
theorem dX5_setSum_31 : decode cX5_setSum 31 = .ok (.aload_n 1, 1) := by decide +kernel
theorem dX5_setSum_32 : decode cX5_setSum 32 = .ok (.getfield 18, 3) := by decide +kernel
theorem dX5_setSum_35 : decode cX5_setSum 35 = .ok (.if_icmp .lt 12, 3) := by decide +kernel
theorem dX5_setSum_38 : decode cX5_setSum 38 = .ok (.iload 4, 2) := by decide +kernel
theorem dX5_setSum_40 : decode cX5_setSum 40 = .ok (.aload_n 2, 1) := by decide +kernel
theorem dX5_setSum_41 : decode cX5_setSum 41 = .ok (.getfield 18, 3) := by decide +kernel
theorem dX5_setSum_44 : decode cX5_setSum 44 = .ok (.if_icmp .ge 63, 3) := by decide +kernel
theorem dX5_setSum_47 : decode cX5_setSum 47 = .ok (.aload_n 0, 1) := by decide +kernel
theorem dX5_setSum_48 : decode cX5_setSum 48 = .ok (.aload_n 1, 1) := by decide +kernel
theorem dX5_setSum_49 : decode cX5_setSum 49 = .ok (.iload_n 3, 1) := by decide +kernel
theorem dX5_setSum_50 : decode cX5_setSum 50 = .ok (.invokevirtual 25, 3) := by decide +kernel
theorem dX5_setSum_53 : decode cX5_setSum 53 = .ok (.aload_n 2, 1) := by decide +kernel
theorem dX5_setSum_54 : decode cX5_setSum 54 = .ok (.iload 4, 2) := by decide +kernel
theorem dX5_setSum_56 : decode cX5_setSum 56 = .ok (.invokevirtual 25, 3) := by decide +kernel
theorem dX5_setSum_59 : decode cX5_setSum 59 = .ok (.iadd, 1) := by decide +kernel
theorem dX5_setSum_60 : decode cX5_setSum 60 = .ok (.aload_n 1, 1) := by decide +kernel
theorem dX5_setSum_61 : decode cX5_setSum 61 = .ok (.iload_n 3, 1) := by decide +kernel
theorem dX5_setSum_62 : decode cX5_setSum 62 = .ok (.invokevirtual 41, 3) := by decide +kernel
theorem dX5_setSum_65 : decode cX5_setSum 65 = .ok (.aload_n 2, 1) := by decide +kernel
theorem dX5_setSum_66 : decode cX5_setSum 66 = .ok (.iload 4, 2) := by decide +kernel
theorem dX5_setSum_68 : decode cX5_setSum 68 = .ok (.invokevirtual 41, 3) := by decide +kernel
theorem dX5_setSum_71 : decode cX5_setSum 71 = .ok (.iadd, 1) := by decide +kernel
theorem dX5_setSum_72 : decode cX5_setSum 72 = .ok (.invokevirtual 59, 3) := by decide +kernel
theorem dX5_setSum_75 : decode cX5_setSum 75 = .ok (.aload_n 1, 1) := by decide +kernel
theorem dX5_setSum_76 : decode cX5_setSum 76 = .ok (.iload_n 3, 1) := by decide +kernel
theorem dX5_setSum_77 : decode cX5_setSum 77 = .ok (.aload_n 2, 1) := by decide +kernel
theorem dX5_setSum_78 : decode cX5_setSum 78 = .ok (.iload 4, 2) := by decide +kernel
theorem dX5_setSum_80 : decode cX5_setSum 80 = .ok (.invokestatic 66, 3) := by decide +kernel
theorem dX5_setSum_83 : decode cX5_setSum 83 = .ok (.istore 7, 2) := by decide +kernel
theorem dX5_setSum_85 : decode cX5_setSum 85 = .ok (.iload 7, 2) := by decide +kernel
theorem dX5_setSum_87 : decode cX5_setSum 87 = .ok (.ifCond .lt 6, 3) := by decide +kernel
theorem dX5_setSum_90 : decode cX5_setSum 90 = .ok (.iinc 3 1, 3) := by decide +kernel
theorem dX5_setSum_93 : decode cX5_setSum 93 = .ok (.iload 7, 2) := by decide +kernel
theorem dX5_setSum_95 : decode cX5_setSum 95 = .ok (.ifCond .gt 6, 3) := by decide +kernel
theorem dX5_setSum_98 : decode cX5_setSum 98 = .ok (.iinc 4 1, 3) := by decide +kernel
theorem dX5_setSum_101 : decode cX5_setSum 101 = .ok (.iinc 6 1, 3) := by decide +kernel
theorem dX5_setSum_104 : decode cX5_setSum 104 = .ok (.goto (-81), 3) := by decide +kernel
theorem dX5_setSum_107 : decode cX5_setSum 107 = .ok (.return_, 1) := by decide +kernel
abbrev rmX5_setSum : Room := { frames := 2, cells := 0, slots := 0, locals := 80 }
abbrev sX5_setSum (E : EV) : List AV → AH → (Option AV → AH → Prop) → Prop := Spec E yX5_setSum cX5_setSum 8 none rmX5_setSum
theorem mX5_setSum : Mt yX5_setSum cX5_setSum 8 none 2 := ⟨k465, k5, by decide +kernel⟩
theorem vX5_setSum : MtV yX5_setSum 5 := ⟨k463, k464, by decide, (RX5, TX5, 8), rfl, rfl⟩
def PX5_setSum_93 (E : EV) (post : Option AV → AH → Prop) (J23 : AH → Option Nat → Option Nat → Option Nat → Int32 → Int32 → Int32 → Int32 → Prop) (h : AH) (l0 : Option Nat) (l1 : Option Nat) (l2 : Option Nat) (l3 : Int32) (l4 : Int32) (l5 : Int32) (l6 : Int32) (l7 : Int32) : Prop :=
  (0 < l7 → J23 h l0 l1 l2 l3 l4 l5 (l6 + (1 : Int32))) ∧ (¬ 0 < l7 → J23 h l0 l1 l2 l3 (l4 + (1 : Int32)) l5 (l6 + (1 : Int32)))
theorem bX5_setSum_93 {E : EV} {X : AX} {post : Option AV → AH → Prop} (C : Cb E X cX5_setSum RX5 8 rmX5_setSum) (D : Cr E X none rmX5_setSum "setSum" post) {J23 : AH → Option Nat → Option Nat → Option Nat → Int32 → Int32 → Int32 → Int32 → Prop} (g23 : ∀ (h : AH) (l0 : Option Nat) (l1 : Option Nat) (l2 : Option Nat) (l3 : Int32) (l4 : Int32) (l5 : Int32) (l6 : Int32), J23 h l0 l1 l2 l3 l4 l5 l6 → Go E X 8 0 0 23 [(0, aP l0), (1, aP l1), (2, aP l2), (3, aI l3), (4, aI l4), (5, aI l5), (6, aI l6)] [] h) {h : AH} {l0 : Option Nat} {l1 : Option Nat} {l2 : Option Nat} {l3 : Int32} {l4 : Int32} {l5 : Int32} {l6 : Int32} {l7 : Int32} (w : PX5_setSum_93 E post J23 h l0 l1 l2 l3 l4 l5 l6 l7) : Go E X 8 0 0 93 [(0, aP l0), (1, aP l1), (2, aP l2), (3, aI l3), (4, aI l4), (5, aI l5), (6, aI l6), (7, aI l7)] [] h := by
  unfold PX5_setSum_93 at w
  refine r_iload C dX5_setSum_93 7 rfl ?_
  refine r_if_gt C dX5_setSum_95 (tgt := 101) rfl (fun hc => ?_) (fun hc => ?_)
  · have w := w.1 hc
    refine r_iinc C dX5_setSum_101 6 rfl (v := 1) rfl (by decide) rfl ?_
    refine r_goto C dX5_setSum_104 (tgt := 23) rfl ?_
    exact r_sub [1, 2, 3, 4, 5, 6, 0] rfl (g23 h l0 l1 l2 l3 l4 l5 (l6 + (1 : Int32)) w)
  · have w := w.2 hc
    refine r_iinc C dX5_setSum_98 4 rfl (v := 1) rfl (by decide) rfl ?_
    refine r_iinc C dX5_setSum_101 6 rfl (v := 1) rfl (by decide) rfl ?_
    refine r_goto C dX5_setSum_104 (tgt := 23) rfl ?_
    exact r_sub [2, 3, 4, 5, 1, 6, 0] rfl (g23 h l0 l1 l2 l3 (l4 + (1 : Int32)) l5 (l6 + (1 : Int32)) w)
def PX5_setSum_47 (E : EV) (post : Option AV → AH → Prop) (J23 : AH → Option Nat → Option Nat → Option Nat → Int32 → Int32 → Int32 → Int32 → Prop) (h : AH) (l0 : Option Nat) (l1 : Option Nat) (l2 : Option Nat) (l3 : Int32) (l4 : Int32) (l5 : Int32) (l6 : Int32) : Prop :=
  CV (sX5_x E) l1 5 [aI l3] h (kI fun x1 h2 => CV (sX5_x E) l2 5 [aI l4] h2 (kI fun x3 h4 => CV (sX5_y E) l1 5 [aI l3] h4 (kI fun x5 h6 => CV (sX5_y E) l2 5 [aI l4] h6 (kI fun x7 h8 => CV (sX5_add E) l0 5 [aI (x1 + x3), aI (x5 + x7)] h8 (kV fun h10 => CS (sX5_turnBetween E) [aP l1, aI l3, aP l2, aI l4] h10 (kI fun x11 h12 => (x11 < 0 → PX5_setSum_93 E post J23 h12 l0 l1 l2 l3 l4 l5 l6 x11) ∧ (¬ x11 < 0 → PX5_setSum_93 E post J23 h12 l0 l1 l2 (l3 + (1 : Int32)) l4 l5 l6 x11)))))))
theorem bX5_setSum_47 {E : EV} {X : AX} {post : Option AV → AH → Prop} (C : Cb E X cX5_setSum RX5 8 rmX5_setSum) (D : Cr E X none rmX5_setSum "setSum" post) {J23 : AH → Option Nat → Option Nat → Option Nat → Int32 → Int32 → Int32 → Int32 → Prop} (g23 : ∀ (h : AH) (l0 : Option Nat) (l1 : Option Nat) (l2 : Option Nat) (l3 : Int32) (l4 : Int32) (l5 : Int32) (l6 : Int32), J23 h l0 l1 l2 l3 l4 l5 l6 → Go E X 8 0 0 23 [(0, aP l0), (1, aP l1), (2, aP l2), (3, aI l3), (4, aI l4), (5, aI l5), (6, aI l6)] [] h) {h : AH} {l0 : Option Nat} {l1 : Option Nat} {l2 : Option Nat} {l3 : Int32} {l4 : Int32} {l5 : Int32} {l6 : Int32} (w : PX5_setSum_47 E post J23 h l0 l1 l2 l3 l4 l5 l6) : Go E X 8 0 0 47 [(0, aP l0), (1, aP l1), (2, aP l2), (3, aI l3), (4, aI l4), (5, aI l5), (6, aI l6)] [] h := by
  unfold PX5_setSum_47 at w
  refine r_aload_n C dX5_setSum_47 rfl 0 rfl ?_
  refine r_aload_n C dX5_setSum_48 rfl 1 rfl ?_
  refine r_iload_n C dX5_setSum_49 rfl 3 rfl ?_
  refine r_cvI (rm' := rmX5_x) C mX5_x vX5_x k458 [aI l3] [aP l0] rfl rfl (Nat.le_of_ble_eq_true rfl) (by decide) ⟨Nat.zero_le _, Nat.zero_le _⟩ 0 0 rfl rfl dX5_setSum_50 w (fun x1 h2 w => ?_)
  refine r_aload_n C dX5_setSum_53 rfl 2 rfl ?_
  refine r_iload C dX5_setSum_54 4 rfl ?_
  refine r_cvI (rm' := rmX5_x) C mX5_x vX5_x k458 [aI l4] [aI x1, aP l0] rfl rfl (Nat.le_of_ble_eq_true rfl) (by decide) ⟨Nat.zero_le _, Nat.zero_le _⟩ 0 0 rfl rfl dX5_setSum_56 w (fun x3 h4 w => ?_)
  refine r_iadd C dX5_setSum_59 ?_
  refine r_aload_n C dX5_setSum_60 rfl 1 rfl ?_
  refine r_iload_n C dX5_setSum_61 rfl 3 rfl ?_
  refine r_cvI (rm' := rmX5_y) C mX5_y vX5_y k467 [aI l3] [aI (x1 + x3), aP l0] rfl rfl (Nat.le_of_ble_eq_true rfl) (by decide) ⟨Nat.zero_le _, Nat.zero_le _⟩ 0 0 rfl rfl dX5_setSum_62 w (fun x5 h6 w => ?_)
  refine r_aload_n C dX5_setSum_65 rfl 2 rfl ?_
  refine r_iload C dX5_setSum_66 4 rfl ?_
  refine r_cvI (rm' := rmX5_y) C mX5_y vX5_y k467 [aI l4] [aI x5, aI (x1 + x3), aP l0] rfl rfl (Nat.le_of_ble_eq_true rfl) (by decide) ⟨Nat.zero_le _, Nat.zero_le _⟩ 0 0 rfl rfl dX5_setSum_68 w (fun x7 h8 w => ?_)
  refine r_iadd C dX5_setSum_71 ?_
  refine r_cvV (rm' := rmX5_add) C mX5_add vX5_add k471 [aI (x1 + x3), aI (x5 + x7)] [] rfl rfl (Nat.le_of_ble_eq_true rfl) (by decide) ⟨Nat.zero_le _, Nat.zero_le _⟩ 0 0 rfl rfl dX5_setSum_72 w (fun h10 w => ?_)
  refine r_aload_n C dX5_setSum_75 rfl 1 rfl ?_
  refine r_iload_n C dX5_setSum_76 rfl 3 rfl ?_
  refine r_aload_n C dX5_setSum_77 rfl 2 rfl ?_
  refine r_iload C dX5_setSum_78 4 rfl ?_
  refine r_csI (rm' := rmX5_turnBetween) C mX5_turnBetween vX5_turnBetween k472 [aP l1, aI l3, aP l2, aI l4] [] rfl rfl (Nat.le_of_ble_eq_true rfl) (by decide) ⟨Nat.zero_le _, Nat.zero_le _⟩ 0 0 rfl rfl dX5_setSum_80 w (fun x11 h12 w => ?_)
  refine r_istore C dX5_setSum_83 (by decide) rfl ?_
  refine r_iload C dX5_setSum_85 0 rfl ?_
  refine r_if_lt C dX5_setSum_87 (tgt := 93) rfl (fun hc => ?_) (fun hc => ?_)
  · have w := w.1 hc
    exact r_sub [1, 2, 3, 4, 5, 6, 7, 0] rfl (bX5_setSum_93 C D g23 w)
  · have w := w.2 hc
    refine r_iinc C dX5_setSum_90 4 rfl (v := 1) rfl (by decide) rfl ?_
    exact r_sub [2, 3, 4, 0, 5, 6, 7, 1] rfl (bX5_setSum_93 C D g23 w)
def PX5_setSum_23 (E : EV) (post : Option AV → AH → Prop) (J23 : AH → Option Nat → Option Nat → Option Nat → Int32 → Int32 → Int32 → Int32 → Prop) (h : AH) (l0 : Option Nat) (l1 : Option Nat) (l2 : Option Nat) (l3 : Int32) (l4 : Int32) (l5 : Int32) (l6 : Int32) : Prop :=
  (l5 ≤ l6 → post none h) ∧ (¬ l5 ≤ l6 → rdI h l1 5 2 fun x1 => (l3 < x1 → PX5_setSum_47 E post J23 h l0 l1 l2 l3 l4 l5 l6) ∧ (¬ l3 < x1 → rdI h l2 5 2 fun x2 => (x2 ≤ l4 → post none h) ∧ (¬ x2 ≤ l4 → PX5_setSum_47 E post J23 h l0 l1 l2 l3 l4 l5 l6)))
theorem bX5_setSum_23 {E : EV} {X : AX} {post : Option AV → AH → Prop} (C : Cb E X cX5_setSum RX5 8 rmX5_setSum) (D : Cr E X none rmX5_setSum "setSum" post) {J23 : AH → Option Nat → Option Nat → Option Nat → Int32 → Int32 → Int32 → Int32 → Prop} (g23 : ∀ (h : AH) (l0 : Option Nat) (l1 : Option Nat) (l2 : Option Nat) (l3 : Int32) (l4 : Int32) (l5 : Int32) (l6 : Int32), J23 h l0 l1 l2 l3 l4 l5 l6 → Go E X 8 0 0 23 [(0, aP l0), (1, aP l1), (2, aP l2), (3, aI l3), (4, aI l4), (5, aI l5), (6, aI l6)] [] h) {h : AH} {l0 : Option Nat} {l1 : Option Nat} {l2 : Option Nat} {l3 : Int32} {l4 : Int32} {l5 : Int32} {l6 : Int32} (w : PX5_setSum_23 E post J23 h l0 l1 l2 l3 l4 l5 l6) : Go E X 8 0 0 23 [(0, aP l0), (1, aP l1), (2, aP l2), (3, aI l3), (4, aI l4), (5, aI l5), (6, aI l6)] [] h := by
  unfold PX5_setSum_23 at w
  refine r_iload C dX5_setSum_23 6 rfl ?_
  refine r_iload C dX5_setSum_25 5 rfl ?_
  refine r_icmp_ge C dX5_setSum_27 (tgt := 107) rfl (fun hc => ?_) (fun hc => ?_)
  · have w := w.1 hc
    exact r_vret C D rfl (Nat.zero_le _) (Nat.zero_le _) dX5_setSum_107 w
  · have w := w.2 hc
    refine r_iload_n C dX5_setSum_30 rfl 3 rfl ?_
    refine r_aload_n C dX5_setSum_31 rfl 1 rfl ?_
    refine r_getI C fcX5 (f := 2) (by decide) rfl k108 dX5_setSum_32 (w.mono fun x1 w => ?_)
    refine r_icmp_lt C dX5_setSum_35 (tgt := 47) rfl (fun hc => ?_) (fun hc => ?_)
    · have w := w.1 hc
      exact (bX5_setSum_47 C D g23 w)
    · have w := w.2 hc
      refine r_iload C dX5_setSum_38 4 rfl ?_
      refine r_aload_n C dX5_setSum_40 rfl 2 rfl ?_
      refine r_getI C fcX5 (f := 2) (by decide) rfl k108 dX5_setSum_41 (w.mono fun x2 w => ?_)
      refine r_icmp_ge C dX5_setSum_44 (tgt := 107) rfl (fun hc => ?_) (fun hc => ?_)
      · have w := w.1 hc
        exact r_vret C D rfl (Nat.zero_le _) (Nat.zero_le _) dX5_setSum_107 w
      · have w := w.2 hc
        exact (bX5_setSum_47 C D g23 w)
theorem lpX5_setSum_23 {E : EV} {X : AX} {post : Option AV → AH → Prop} (C : Cb E X cX5_setSum RX5 8 rmX5_setSum) (D : Cr E X none rmX5_setSum "setSum" post) (I : Nat → AH → Option Nat → Option Nat → Option Nat → Int32 → Int32 → Int32 → Int32 → Prop) (step : ∀ (z : Nat) (h : AH) (l0 : Option Nat) (l1 : Option Nat) (l2 : Option Nat) (l3 : Int32) (l4 : Int32) (l5 : Int32) (l6 : Int32), I z h l0 l1 l2 l3 l4 l5 l6 → PX5_setSum_23 E post (fun h l0 l1 l2 l3 l4 l5 l6 => ∃ z', z' < z ∧ I z' h l0 l1 l2 l3 l4 l5 l6) h l0 l1 l2 l3 l4 l5 l6) : ∀ (z : Nat) (h : AH) (l0 : Option Nat) (l1 : Option Nat) (l2 : Option Nat) (l3 : Int32) (l4 : Int32) (l5 : Int32) (l6 : Int32), I z h l0 l1 l2 l3 l4 l5 l6 → Go E X 8 0 0 23 [(0, aP l0), (1, aP l1), (2, aP l2), (3, aI l3), (4, aI l4), (5, aI l5), (6, aI l6)] [] h := by
  intro z
  induction z using Nat.strongRecOn with
  | _ z ih =>
    intro h l0 l1 l2 l3 l4 l5 l6 hI
    exact bX5_setSum_23 C D (fun h l0 l1 l2 l3 l4 l5 l6 hJ => by obtain ⟨z', hz, hi⟩ := hJ; exact ih z' hz h l0 l1 l2 l3 l4 l5 l6 hi) (step z h l0 l1 l2 l3 l4 l5 l6 hI)
def PX5_setSum_0 (E : EV) (post : Option AV → AH → Prop) (J23 : AH → Option Nat → Option Nat → Option Nat → Int32 → Int32 → Int32 → Int32 → Prop) (h : AH) (l0 : Option Nat) (l1 : Option Nat) (l2 : Option Nat) : Prop :=
  CV (sX5_clear E) l0 5 [] h (kV fun h2 => rdI h2 l1 5 2 fun x5 => rdI h2 l2 5 2 fun x6 => ∀ v7, v7 = (x5 + x6) → J23 h2 l0 l1 l2 (0 : Int32) (0 : Int32) v7 (0 : Int32))
theorem bX5_setSum_0 {E : EV} {X : AX} {post : Option AV → AH → Prop} (C : Cb E X cX5_setSum RX5 8 rmX5_setSum) (D : Cr E X none rmX5_setSum "setSum" post) {J23 : AH → Option Nat → Option Nat → Option Nat → Int32 → Int32 → Int32 → Int32 → Prop} (g23 : ∀ (h : AH) (l0 : Option Nat) (l1 : Option Nat) (l2 : Option Nat) (l3 : Int32) (l4 : Int32) (l5 : Int32) (l6 : Int32), J23 h l0 l1 l2 l3 l4 l5 l6 → Go E X 8 0 0 23 [(0, aP l0), (1, aP l1), (2, aP l2), (3, aI l3), (4, aI l4), (5, aI l5), (6, aI l6)] [] h) {h : AH} {l0 : Option Nat} {l1 : Option Nat} {l2 : Option Nat} (w : PX5_setSum_0 E post J23 h l0 l1 l2) : Go E X 8 0 0 0 [(0, aP l0), (1, aP l1), (2, aP l2)] [] h := by
  unfold PX5_setSum_0 at w
  refine r_aload_n C dX5_setSum_0 rfl 0 rfl ?_
  refine r_cvV (rm' := rmX5_clear) C mX5_clear vX5_clear k466 [] [] rfl rfl (Nat.le_of_ble_eq_true rfl) (by decide) ⟨Nat.zero_le _, Nat.zero_le _⟩ 0 0 rfl rfl dX5_setSum_1 w (fun h2 w => ?_)
  refine r_iconst (v := 0) C dX5_setSum_4 rfl ?_
  refine r_istore_n C dX5_setSum_5 rfl (by decide) rfl ?_
  refine r_iconst (v := 0) C dX5_setSum_6 rfl ?_
  refine r_istore C dX5_setSum_7 (by decide) rfl ?_
  refine r_aload_n C dX5_setSum_9 rfl 3 rfl ?_
  refine r_getI C fcX5 (f := 2) (by decide) rfl k108 dX5_setSum_10 (w.mono fun x5 w => ?_)
  refine r_aload_n C dX5_setSum_13 rfl 4 rfl ?_
  refine r_getI C fcX5 (f := 2) (by decide) rfl k108 dX5_setSum_14 (w.mono fun x6 w => ?_)
  refine r_iadd C dX5_setSum_17 ?_
  refine r_istore C dX5_setSum_18 (by decide) rfl ?_
  have w := w _ rfl
  refine r_iconst (v := 0) C dX5_setSum_20 rfl ?_
  refine r_istore C dX5_setSum_21 (by decide) rfl ?_
  exact r_sub [4, 5, 6, 3, 2, 1, 0] rfl (g23 h2 l0 l1 l2 (0 : Int32) (0 : Int32) (x5 + x6) (0 : Int32) w)
theorem eX5_setSum {E : EV} {post : Option AV → AH → Prop} {h : AH} {l0 : Option Nat} {l1 : Option Nat} {l2 : Option Nat} {J23 : AH → Option Nat → Option Nat → Option Nat → Int32 → Int32 → Int32 → Int32 → Prop} (g23 : ∀ X : AX, Cb E X cX5_setSum RX5 8 rmX5_setSum → Cr E X none rmX5_setSum "setSum" post → ∀ (h : AH) (l0 : Option Nat) (l1 : Option Nat) (l2 : Option Nat) (l3 : Int32) (l4 : Int32) (l5 : Int32) (l6 : Int32), J23 h l0 l1 l2 l3 l4 l5 l6 → Go E X 8 0 0 23 [(0, aP l0), (1, aP l1), (2, aP l2), (3, aI l3), (4, aI l4), (5, aI l5), (6, aI l6)] [] h) (w : PX5_setSum_0 E post J23 h l0 l1 l2) : sX5_setSum E [aP l0, aP l1, aP l2] h post := Spec.of RX5 rfl rfl (Nat.le_of_ble_eq_true rfl) fun X C D => bX5_setSum_0 C D (g23 X C D) w
theorem dX3_addUp_0 : decode cX3_addUp 0 = .ok (.aload_n 1, 1) := by decide +kernel
theorem dX3_addUp_1 : decode cX3_addUp 1 = .ok (.iload_n 2, 1) := by decide +kernel
theorem dX3_addUp_2 : decode cX3_addUp 2 = .ok (.iconst 0, 1) := by decide +kernel
theorem dX3_addUp_3 : decode cX3_addUp 3 = .ok (.aload_n 0, 1) := by decide +kernel
theorem dX3_addUp_4 : decode cX3_addUp 4 = .ok (.getfield 12, 3) := by decide +kernel
theorem dX3_addUp_7 : decode cX3_addUp 7 = .ok (.invokevirtual 31, 3) := by decide +kernel
theorem dX3_addUp_10 : decode cX3_addUp 10 = .ok (.aload_n 3, 1) := by decide +kernel
theorem dX3_addUp_11 : decode cX3_addUp 11 = .ok (.iload 4, 2) := by decide +kernel
theorem dX3_addUp_13 : decode cX3_addUp 13 = .ok (.iload 5, 2) := by decide +kernel
theorem dX3_addUp_15 : decode cX3_addUp 15 = .ok (.aload_n 0, 1) := by decide +kernel
theorem dX3_addUp_16 : decode cX3_addUp 16 = .ok (.getfield 18, 3) := by decide +kernel
theorem dX3_addUp_19 : decode cX3_addUp 19 = .ok (.invokevirtual 31, 3) := by decide +kernel
theorem dX3_addUp_22 : decode cX3_addUp 22 = .ok (.aload_n 0, 1) := by decide +kernel
theorem dX3_addUp_23 : decode cX3_addUp 23 = .ok (.getfield 21, 3) := by decide +kernel
theorem dX3_addUp_26 : decode cX3_addUp 26 = .ok (.aload_n 0, 1) := by decide +kernel
theorem dX3_addUp_27 : decode cX3_addUp 27 = .ok (.getfield 12, 3) := by decide +kernel
theorem dX3_addUp_30 : decode cX3_addUp 30 = .ok (.aload_n 0, 1) := by decide +kernel
theorem dX3_addUp_31 : decode cX3_addUp 31 = .ok (.getfield 18, 3) := by decide +kernel
theorem dX3_addUp_34 : decode cX3_addUp 34 = .ok (.invokevirtual 37, 3) := by decide +kernel
theorem dX3_addUp_37 : decode cX3_addUp 37 = .ok (.return_, 1) := by decide +kernel
abbrev rmX3_addUp : Room := { frames := 3, cells := 0, slots := 0, locals := 120 }
abbrev sX3_addUp (E : EV) : List AV → AH → (Option AV → AH → Prop) → Prop := Spec E yX3_addUp cX3_addUp 6 none rmX3_addUp
theorem mX3_addUp : Mt yX3_addUp cX3_addUp 6 none 5 := ⟨k427, k7, by decide +kernel⟩
theorem vX3_addUp : MtV yX3_addUp 3 := ⟨k425, k426, by decide, (RX3, TX3, 4), rfl, rfl⟩
def PX3_addUp_0 (E : EV) (post : Option AV → AH → Prop) (h : AH) (l0 : Option Nat) (l1 : Option Nat) (l2 : Int32) (l3 : Option Nat) (l4 : Int32) (l5 : Int32) : Prop :=
  rdP h l0 3 0 fun x1 => CV (sX6_copyPiece E) l1 6 [aI l2, aI (0 : Int32), aP x1] h (kV fun h3 => rdP h3 l0 3 1 fun x4 => CV (sX6_copyPiece E) l3 6 [aI l4, aI l5, aP x4] h3 (kV fun h6 => rdP h6 l0 3 2 fun x7 => rdP h6 l0 3 0 fun x8 => rdP h6 l0 3 1 fun x9 => CV (sX5_setSum E) x7 5 [aP x8, aP x9] h6 (kV fun h11 => post none h11)))
theorem bX3_addUp_0 {E : EV} {X : AX} {post : Option AV → AH → Prop} (C : Cb E X cX3_addUp RX3 6 rmX3_addUp) (D : Cr E X none rmX3_addUp "addUp" post) {h : AH} {l0 : Option Nat} {l1 : Option Nat} {l2 : Int32} {l3 : Option Nat} {l4 : Int32} {l5 : Int32} (w : PX3_addUp_0 E post h l0 l1 l2 l3 l4 l5) : Go E X 6 0 0 0 [(0, aP l0), (1, aP l1), (2, aI l2), (3, aP l3), (4, aI l4), (5, aI l5)] [] h := by
  unfold PX3_addUp_0 at w
  refine r_aload_n C dX3_addUp_0 rfl 1 rfl ?_
  refine r_iload_n C dX3_addUp_1 rfl 2 rfl ?_
  refine r_iconst (v := 0) C dX3_addUp_2 rfl ?_
  refine r_aload_n C dX3_addUp_3 rfl 0 rfl ?_
  refine r_getP C fcX3 (f := 0) (by decide) rfl k183 dX3_addUp_4 (w.mono fun x1 w => ?_)
  refine r_cvV (rm' := rmX6_copyPiece) C mX6_copyPiece vX6_copyPiece k428 [aI l2, aI (0 : Int32), aP x1] [] rfl rfl (Nat.le_of_ble_eq_true rfl) (by decide) ⟨Nat.zero_le _, Nat.zero_le _⟩ 0 0 rfl rfl dX3_addUp_7 w (fun h3 w => ?_)
  refine r_aload_n C dX3_addUp_10 rfl 3 rfl ?_
  refine r_iload C dX3_addUp_11 4 rfl ?_
  refine r_iload C dX3_addUp_13 5 rfl ?_
  refine r_aload_n C dX3_addUp_15 rfl 0 rfl ?_
  refine r_getP C fcX3 (f := 1) (by decide) rfl k184 dX3_addUp_16 (w.mono fun x4 w => ?_)
  refine r_cvV (rm' := rmX6_copyPiece) C mX6_copyPiece vX6_copyPiece k428 [aI l4, aI l5, aP x4] [] rfl rfl (Nat.le_of_ble_eq_true rfl) (by decide) ⟨Nat.zero_le _, Nat.zero_le _⟩ 0 0 rfl rfl dX3_addUp_19 w (fun h6 w => ?_)
  refine r_aload_n C dX3_addUp_22 rfl 0 rfl ?_
  refine r_getP C fcX3 (f := 2) (by decide) rfl k185 dX3_addUp_23 (w.mono fun x7 w => ?_)
  refine r_aload_n C dX3_addUp_26 rfl 0 rfl ?_
  refine r_getP C fcX3 (f := 0) (by decide) rfl k183 dX3_addUp_27 (w.mono fun x8 w => ?_)
  refine r_aload_n C dX3_addUp_30 rfl 0 rfl ?_
  refine r_getP C fcX3 (f := 1) (by decide) rfl k184 dX3_addUp_31 (w.mono fun x9 w => ?_)
  refine r_cvV (rm' := rmX5_setSum) C mX5_setSum vX5_setSum k462 [aP x8, aP x9] [] rfl rfl (Nat.le_of_ble_eq_true rfl) (by decide) ⟨Nat.zero_le _, Nat.zero_le _⟩ 0 0 rfl rfl dX3_addUp_34 w (fun h11 w => ?_)
  exact r_vret C D rfl (Nat.zero_le _) (Nat.zero_le _) dX3_addUp_37 w
theorem eX3_addUp {E : EV} {post : Option AV → AH → Prop} {h : AH} {l0 : Option Nat} {l1 : Option Nat} {l2 : Int32} {l3 : Option Nat} {l4 : Int32} {l5 : Int32} (w : PX3_addUp_0 E post h l0 l1 l2 l3 l4 l5) : sX3_addUp E [aP l0, aP l1, aI l2, aP l3, aI l4, aI l5] h post := Spec.of RX3 rfl rfl (Nat.le_of_ble_eq_true rfl) fun X C D => bX3_addUp_0 C D w
theorem dX5_init_0 : decode cX5_init 0 = .ok (.aload_n 0, 1) := by decide +kernel
theorem dX5_init_1 : decode cX5_init 1 = .ok (.invokespecial 3, 3) := by decide +kernel
theorem dX5_init_4 : decode cX5_init 4 = .ok (.aload_n 0, 1) := by decide +kernel
theorem dX5_init_5 : decode cX5_init 5 = .ok (.bipush 18, 2) := by decide +kernel
theorem dX5_init_7 : decode cX5_init 7 = .ok (.newarray .int, 2) := by decide +kernel
theorem dX5_init_9 : decode cX5_init 9 = .ok (.putfield 11, 3) := by decide +kernel
theorem dX5_init_12 : decode cX5_init 12 = .ok (.aload_n 0, 1) := by decide +kernel
theorem dX5_init_13 : decode cX5_init 13 = .ok (.bipush 18, 2) := by decide +kernel
theorem dX5_init_15 : decode cX5_init 15 = .ok (.newarray .int, 2) := by decide +kernel
theorem dX5_init_17 : decode cX5_init 17 = .ok (.putfield 15, 3) := by decide +kernel
theorem dX5_init_20 : decode cX5_init 20 = .ok (.return_, 1) := by decide +kernel
abbrev rmX5_init : Room := { frames := 1, cells := 2, slots := 36, locals := 40 }
abbrev sX5_init (E : EV) : List AV → AH → (Option AV → AH → Prop) → Prop := Spec E yX5_init cX5_init 1 none rmX5_init
theorem mX5_init : Mt yX5_init cX5_init 1 none 0 := ⟨k104, k5, by decide +kernel⟩
theorem vX5_init : MtI yX5_init := ⟨rfl, k103⟩
def PX5_init_0 (E : EV) (post : Option AV → AH → Prop) (k n : Nat) (h : AH) (l0 : Nat) : Prop :=
  (k + 1 ≤ 2 ∧ n + 18 ≤ 36) ∧ (∀ h1, h1 = h ++ [.inl (0, List.replicate 18 0)] → wr h1 (some l0) 5 0 (aP (some h.length)) fun h2 => ((k + 1) + 1 ≤ 2 ∧ (n + 18) + 18 ≤ 36) ∧ (∀ h3, h3 = h2 ++ [.inl (0, List.replicate 18 0)] → wr h3 (some l0) 5 1 (aP (some h2.length)) fun h4 => (((k + 1) + 1) ≤ 2 ∧ ((n + 18) + 18) ≤ 36) ∧ post none h4))
theorem bX5_init_0 {E : EV} {X : AX} {post : Option AV → AH → Prop} (C : Cb E X cX5_init RX5 1 rmX5_init) (D : Cr E X none rmX5_init "<init>" post) {k n : Nat} {h : AH} {l0 : Nat} (w : PX5_init_0 E post k n h l0) : Go E X 1 k n 0 [(0, aP (some l0))] [] h := by
  unfold PX5_init_0 at w
  refine r_aload_n C dX5_init_0 rfl 0 rfl ?_
  refine r_objInit C k105 k19 k20 (by decide) (by decide) (Nat.le_of_ble_eq_true rfl) dX5_init_1 ?_
  refine r_aload_n C dX5_init_4 rfl 0 rfl ?_
  refine r_bipush (v := 18) C dX5_init_5 rfl ?_
  refine r_newaI 0 .int rfl 0 rfl ra_int rfl (N' := 18) C k66 (by decide) rfl (by decide) w.1.1 w.1.2 dX5_init_7 ?_
  have w := w.2 _ rfl
  generalize h ++ [.inl (0, List.replicate 18 0)] = h1 at w ⊢
  refine r_putF C D fcX5 (f := 0) (by decide) rfl rfl rfl rfl (ft_A _ _) k106 dX5_init_9 (w.mono fun h2 w => ?_)
  refine r_aload_n C dX5_init_12 rfl 0 rfl ?_
  refine r_bipush (v := 18) C dX5_init_13 rfl ?_
  refine r_newaI 0 .int rfl 0 rfl ra_int rfl (N' := 18) C k66 (by decide) rfl (by decide) w.1.1 w.1.2 dX5_init_15 ?_
  have w := w.2 _ rfl
  generalize h2 ++ [.inl (0, List.replicate 18 0)] = h3 at w ⊢
  refine r_putF C D fcX5 (f := 1) (by decide) rfl rfl rfl rfl (ft_A _ _) k107 dX5_init_17 (w.mono fun h4 w => ?_)
  exact r_vret C D rfl w.1.1 w.1.2 dX5_init_20 w.2
theorem eX5_init {E : EV} {post : Option AV → AH → Prop} {h : AH} {l0 : Nat} (w : PX5_init_0 E post 0 0 h l0) : sX5_init E [aP (some l0)] h post := Spec.of RX5 rfl rfl (Nat.le_of_ble_eq_true rfl) fun X C D => bX5_init_0 C D w
theorem dX3_init_0 : decode cX3_init 0 = .ok (.aload_n 0, 1) := by decide +kernel
theorem dX3_init_1 : decode cX3_init 1 = .ok (.invokespecial 3, 3) := by decide +kernel
theorem dX3_init_4 : decode cX3_init 4 = .ok (.aload_n 0, 1) := by decide +kernel
theorem dX3_init_5 : decode cX3_init 5 = .ok (.new 9, 3) := by decide +kernel
theorem dX3_init_8 : decode cX3_init 8 = .ok (.dup, 1) := by decide +kernel
theorem dX3_init_9 : decode cX3_init 9 = .ok (.invokespecial 11, 3) := by decide +kernel
theorem dX3_init_12 : decode cX3_init 12 = .ok (.putfield 12, 3) := by decide +kernel
theorem dX3_init_15 : decode cX3_init 15 = .ok (.aload_n 0, 1) := by decide +kernel
theorem dX3_init_16 : decode cX3_init 16 = .ok (.new 9, 3) := by decide +kernel
theorem dX3_init_19 : decode cX3_init 19 = .ok (.dup, 1) := by decide +kernel
theorem dX3_init_20 : decode cX3_init 20 = .ok (.invokespecial 11, 3) := by decide +kernel
theorem dX3_init_23 : decode cX3_init 23 = .ok (.putfield 18, 3) := by decide +kernel
theorem dX3_init_26 : decode cX3_init 26 = .ok (.aload_n 0, 1) := by decide +kernel
theorem dX3_init_27 : decode cX3_init 27 = .ok (.new 9, 3) := by decide +kernel
theorem dX3_init_30 : decode cX3_init 30 = .ok (.dup, 1) := by decide +kernel
theorem dX3_init_31 : decode cX3_init 31 = .ok (.invokespecial 11, 3) := by decide +kernel
theorem dX3_init_34 : decode cX3_init 34 = .ok (.putfield 21, 3) := by decide +kernel
theorem dX3_init_37 : decode cX3_init 37 = .ok (.aload_n 0, 1) := by decide +kernel
theorem dX3_init_38 : decode cX3_init 38 = .ok (.new 24, 3) := by decide +kernel
theorem dX3_init_41 : decode cX3_init 41 = .ok (.dup, 1) := by decide +kernel
theorem dX3_init_42 : decode cX3_init 42 = .ok (.invokespecial 26, 3) := by decide +kernel
theorem dX3_init_45 : decode cX3_init 45 = .ok (.putfield 27, 3) := by decide +kernel
theorem dX3_init_48 : decode cX3_init 48 = .ok (.return_, 1) := by decide +kernel
abbrev rmX3_init : Room := { frames := 2, cells := 10, slots := 134, locals := 80 }
abbrev sX3_init (E : EV) : List AV → AH → (Option AV → AH → Prop) → Prop := Spec E yX3_init cX3_init 1 none rmX3_init
theorem mX3_init : Mt yX3_init cX3_init 1 none 0 := ⟨k164, k7, by decide +kernel⟩
theorem vX3_init : MtI yX3_init := ⟨rfl, k163⟩
def PX3_init_0 (E : EV) (post : Option AV → AH → Prop) (k n : Nat) (h : AH) (l0 : Nat) : Prop :=
  (k + 1 ≤ 10 ∧ n + 8 ≤ 134) ∧ (∀ h1, h1 = h ++ [.inr (5, [aP none, aP none, aI 0, aI 0, aI 0, aI 0, aI 0, aI 0])] → ((k + 1) + 2 ≤ 10 ∧ (n + 8) + 36 ≤ 134) ∧ CS (sX5_init E) [aP (some h.length)] h1 (kV fun h3 => wr h3 (some l0) 3 0 (aP (some h.length)) fun h4 => (((k + 1) + 2) + 1 ≤ 10 ∧ ((n + 8) + 36) + 8 ≤ 134) ∧ (∀ h5, h5 = h4 ++ [.inr (5, [aP none, aP none, aI 0, aI 0, aI 0, aI 0, aI 0, aI 0])] → ((((k + 1) + 2) + 1) + 2 ≤ 10 ∧ (((n + 8) + 36) + 8) + 36 ≤ 134) ∧ CS (sX5_init E) [aP (some h4.length)] h5 (kV fun h7 => wr h7 (some l0) 3 1 (aP (some h4.length)) fun h8 => (((((k + 1) + 2) + 1) + 2) + 1 ≤ 10 ∧ ((((n + 8) + 36) + 8) + 36) + 8 ≤ 134) ∧ (∀ h9, h9 = h8 ++ [.inr (5, [aP none, aP none, aI 0, aI 0, aI 0, aI 0, aI 0, aI 0])] → ((((((k + 1) + 2) + 1) + 2) + 1) + 2 ≤ 10 ∧ (((((n + 8) + 36) + 8) + 36) + 8) + 36 ≤ 134) ∧ CS (sX5_init E) [aP (some h8.length)] h9 (kV fun h11 => wr h11 (some l0) 3 2 (aP (some h8.length)) fun h12 => (((((((k + 1) + 2) + 1) + 2) + 1) + 2) + 1 ≤ 10 ∧ ((((((n + 8) + 36) + 8) + 36) + 8) + 36) + 2 ≤ 134) ∧ (∀ h13, h13 = h12 ++ [.inr (0, [aJ 0, aJ 0])] → ((((((((k + 1) + 2) + 1) + 2) + 1) + 2) + 1) ≤ 10 ∧ (((((((n + 8) + 36) + 8) + 36) + 8) + 36) + 2) ≤ 134) ∧ CS (sX0_init E) [aP (some h12.length)] h13 (kV fun h15 => wr h15 (some l0) 3 3 (aP (some h12.length)) fun h16 => ((((((((k + 1) + 2) + 1) + 2) + 1) + 2) + 1) ≤ 10 ∧ (((((((n + 8) + 36) + 8) + 36) + 8) + 36) + 2) ≤ 134) ∧ post none h16))))))))
theorem bX3_init_0 {E : EV} {X : AX} {post : Option AV → AH → Prop} (C : Cb E X cX3_init RX3 1 rmX3_init) (D : Cr E X none rmX3_init "<init>" post) {k n : Nat} {h : AH} {l0 : Nat} (w : PX3_init_0 E post k n h l0) : Go E X 1 k n 0 [(0, aP (some l0))] [] h := by
  unfold PX3_init_0 at w
  refine r_aload_n C dX3_init_0 rfl 0 rfl ?_
  refine r_objInit C k165 k19 k20 (by decide) (by decide) (Nat.le_of_ble_eq_true rfl) dX3_init_1 ?_
  refine r_aload_n C dX3_init_4 rfl 0 rfl ?_
  refine r_new (fs := [aP none, aP none, aI 0, aI 0, aI 0, aI 0, aI 0, aI 0]) C fcX5 rfl df_X5 k166 k101 k5 w.1.1 w.1.2 dX3_init_5 ?_
  have w := w.2 _ rfl
  generalize h ++ [.inr (5, [aP none, aP none, aI 0, aI 0, aI 0, aI 0, aI 0, aI 0])] = h1 at w ⊢
  refine r_dup C dX3_init_8 rfl ?_
  refine r_ciV (rm' := rmX5_init) C mX5_init vX5_init (host := "NestingPlanner") (Or.inr nk167) [] [aP (some h.length), aP (some l0)] rfl rfl (Nat.le_of_ble_eq_true rfl) (by decide) w.1 ((k + 1) + 2) ((n + 8) + 36) rfl rfl dX3_init_9 rfl w.2 (fun h3 w => ?_)
  refine r_putF C D fcX3 (f := 0) (by decide) rfl rfl rfl rfl (ft_P _ _) k183 dX3_init_12 (w.mono fun h4 w => ?_)
  refine r_aload_n C dX3_init_15 rfl 0 rfl ?_
  refine r_new (fs := [aP none, aP none, aI 0, aI 0, aI 0, aI 0, aI 0, aI 0]) C fcX5 rfl df_X5 k166 k101 k5 w.1.1 w.1.2 dX3_init_16 ?_
  have w := w.2 _ rfl
  generalize h4 ++ [.inr (5, [aP none, aP none, aI 0, aI 0, aI 0, aI 0, aI 0, aI 0])] = h5 at w ⊢
  refine r_dup C dX3_init_19 rfl ?_
  refine r_ciV (rm' := rmX5_init) C mX5_init vX5_init (host := "NestingPlanner") (Or.inr nk167) [] [aP (some h4.length), aP (some l0)] rfl rfl (Nat.le_of_ble_eq_true rfl) (by decide) w.1 ((((k + 1) + 2) + 1) + 2) ((((n + 8) + 36) + 8) + 36) rfl rfl dX3_init_20 rfl w.2 (fun h7 w => ?_)
  refine r_putF C D fcX3 (f := 1) (by decide) rfl rfl rfl rfl (ft_P _ _) k184 dX3_init_23 (w.mono fun h8 w => ?_)
  refine r_aload_n C dX3_init_26 rfl 0 rfl ?_
  refine r_new (fs := [aP none, aP none, aI 0, aI 0, aI 0, aI 0, aI 0, aI 0]) C fcX5 rfl df_X5 k166 k101 k5 w.1.1 w.1.2 dX3_init_27 ?_
  have w := w.2 _ rfl
  generalize h8 ++ [.inr (5, [aP none, aP none, aI 0, aI 0, aI 0, aI 0, aI 0, aI 0])] = h9 at w ⊢
  refine r_dup C dX3_init_30 rfl ?_
  refine r_ciV (rm' := rmX5_init) C mX5_init vX5_init (host := "NestingPlanner") (Or.inr nk167) [] [aP (some h8.length), aP (some l0)] rfl rfl (Nat.le_of_ble_eq_true rfl) (by decide) w.1 ((((((k + 1) + 2) + 1) + 2) + 1) + 2) ((((((n + 8) + 36) + 8) + 36) + 8) + 36) rfl rfl dX3_init_31 rfl w.2 (fun h11 w => ?_)
  refine r_putF C D fcX3 (f := 2) (by decide) rfl rfl rfl rfl (ft_P _ _) k185 dX3_init_34 (w.mono fun h12 w => ?_)
  refine r_aload_n C dX3_init_37 rfl 0 rfl ?_
  refine r_new (fs := [aJ 0, aJ 0]) C fcX0 rfl df_X0 k168 k169 k8 w.1.1 w.1.2 dX3_init_38 ?_
  have w := w.2 _ rfl
  generalize h12 ++ [.inr (0, [aJ 0, aJ 0])] = h13 at w ⊢
  refine r_dup C dX3_init_41 rfl ?_
  refine r_ciV (rm' := rmX0_init) C mX0_init vX0_init (host := "NestingPlanner") (Or.inr nk170) [] [aP (some h12.length), aP (some l0)] rfl rfl (Nat.le_of_ble_eq_true rfl) (by decide) w.1 (((((((k + 1) + 2) + 1) + 2) + 1) + 2) + 1) (((((((n + 8) + 36) + 8) + 36) + 8) + 36) + 2) rfl rfl dX3_init_42 rfl w.2 (fun h15 w => ?_)
  refine r_putF C D fcX3 (f := 3) (by decide) rfl rfl rfl rfl (ft_P _ _) k187 dX3_init_45 (w.mono fun h16 w => ?_)
  exact r_vret C D rfl w.1.1 w.1.2 dX3_init_48 w.2
theorem eX3_init {E : EV} {post : Option AV → AH → Prop} {h : AH} {l0 : Nat} (w : PX3_init_0 E post 0 0 h l0) : sX3_init E [aP (some l0)] h post := Spec.of RX3 rfl rfl (Nat.le_of_ble_eq_true rfl) fun X C D => bX3_init_0 C D w
theorem dX5_side_0 : decode cX5_side 0 = .ok (.aload_n 0, 1) := by decide +kernel
theorem dX5_side_1 : decode cX5_side 1 = .ok (.iload_n 1, 1) := by decide +kernel
theorem dX5_side_2 : decode cX5_side 2 = .ok (.iconst 1, 1) := by decide +kernel
theorem dX5_side_3 : decode cX5_side 3 = .ok (.iadd, 1) := by decide +kernel
theorem dX5_side_4 : decode cX5_side 4 = .ok (.invokevirtual 25, 3) := by decide +kernel
theorem dX5_side_7 : decode cX5_side 7 = .ok (.aload_n 0, 1) := by decide +kernel
theorem dX5_side_8 : decode cX5_side 8 = .ok (.iload_n 1, 1) := by decide +kernel
theorem dX5_side_9 : decode cX5_side 9 = .ok (.invokevirtual 25, 3) := by decide +kernel
theorem dX5_side_12 : decode cX5_side 12 = .ok (.isub, 1) := by decide +kernel
theorem dX5_side_13 : decode cX5_side 13 = .ok (.istore 4, 2) := by decide +kernel
theorem dX5_side_15 : decode cX5_side 15 = .ok (.aload_n 0, 1) := by decide +kernel
theorem dX5_side_16 : decode cX5_side 16 = .ok (.iload_n 1, 1) := by decide +kernel
theorem dX5_side_17 : decode cX5_side 17 = .ok (.iconst 1, 1) := by decide +kernel
theorem dX5_side_18 : decode cX5_side 18 = .ok (.iadd, 1) := by decide +kernel
theorem dX5_side_19 : decode cX5_side 19 = .ok (.invokevirtual 41, 3) := by decide +kernel
theorem dX5_side_22 : decode cX5_side 22 = .ok (.aload_n 0, 1) := by decide +kernel
theorem dX5_side_23 : decode cX5_side 23 = .ok (.iload_n 1, 1) := by decide +kernel
theorem dX5_side_24 : decode cX5_side 24 = .ok (.invokevirtual 41, 3) := by decide +kernel
theorem dX5_side_27 : decode cX5_side 27 = .ok (.isub, 1) := by decide +kernel
theorem dX5_side_28 : decode cX5_side 28 = .ok (.istore 5, 2) := by decide +kernel
theorem dX5_side_30 : decode cX5_side 30 = .ok (.iload 4, 2) := by decide +kernel
theorem dX5_side_32 : decode cX5_side 32 = .ok (.iload_n 3, 1) := by decide +kernel
theorem dX5_side_33 : decode cX5_side 33 = .ok (.aload_n 0, 1) := by decide +kernel
theorem dX5_side_34 : decode cX5_side 34 = .ok (.iload_n 1, 1) := by decide +kernel
theorem dX5_side_35 : decode cX5_side 35 = .ok (.invokevirtual 41, 3) := by decide +kernel
theorem dX5_side_38 : decode cX5_side 38 = .ok (.isub, 1) := by decide +kernel
theorem dX5_side_39 : decode cX5_side 39 = .ok (.imul, 1) := by decide +kernel
theorem dX5_side_40 : decode cX5_side 40 = .ok (.iload 5, 2) := by decide +kernel
theorem dX5_side_42 : decode cX5_side 42 = .ok (.iload_n 2, 1) := by decide +kernel
theorem dX5_side_43 : decode cX5_side 43 = .ok (.aload_n 0, 1) := by decide +kernel
theorem dX5_side_44 : decode cX5_side 44 = .ok (.iload_n 1, 1) := by decide +kernel
theorem dX5_side_45 : decode cX5_side 45 = .ok (.invokevirtual 25, 3) := by decide +kernel
theorem dX5_side_48 : decode cX5_side 48 = .ok (.isub, 1) := by decide +kernel
theorem dX5_side_49 : decode cX5_side 49 = .ok (.imul, 1) := by decide +kernel
theorem dX5_side_50 : decode cX5_side 50 = .ok (.isub, 1) := by decide +kernel
theorem dX5_side_51 : decode cX5_side 51 = .ok (.ireturn, 1) := by decide +kernel
abbrev rmX5_side : Room := { frames := 1, cells := 0, slots := 0, locals := 40 }
abbrev sX5_side (E : EV) : List AV → AH → (Option AV → AH → Prop) → Prop := Spec E yX5_side cX5_side 6 (some .int) rmX5_side
theorem mX5_side : Mt yX5_side cX5_side 6 (some .int) 3 := ⟨k486, k5, by decide +kernel⟩
theorem vX5_side : MtV yX5_side 5 := ⟨k484, k485, by decide, (RX5, TX5, 8), rfl, rfl⟩
def PX5_side_0 (E : EV) (post : Option AV → AH → Prop) (h : AH) (l0 : Option Nat) (l1 : Int32) (l2 : Int32) (l3 : Int32) : Prop :=
  CV (sX5_x E) l0 5 [aI (l1 + (1 : Int32))] h (kI fun x1 h2 => CV (sX5_x E) l0 5 [aI l1] h2 (kI fun x3 h4 => ∀ v5, v5 = (x1 - x3) → CV (sX5_y E) l0 5 [aI (l1 + (1 : Int32))] h4 (kI fun x6 h7 => CV (sX5_y E) l0 5 [aI l1] h7 (kI fun x8 h9 => ∀ v10, v10 = (x6 - x8) → CV (sX5_y E) l0 5 [aI l1] h9 (kI fun x11 h12 => CV (sX5_x E) l0 5 [aI l1] h12 (kI fun x13 h14 => post (some (aI ((v5 * (l3 - x11)) - (v10 * (l2 - x13))))) h14))))))
theorem bX5_side_0 {E : EV} {X : AX} {post : Option AV → AH → Prop} (C : Cb E X cX5_side RX5 6 rmX5_side) (D : Cr E X (some .int) rmX5_side "side" post) {h : AH} {l0 : Option Nat} {l1 : Int32} {l2 : Int32} {l3 : Int32} (w : PX5_side_0 E post h l0 l1 l2 l3) : Go E X 6 0 0 0 [(0, aP l0), (1, aI l1), (2, aI l2), (3, aI l3)] [] h := by
  unfold PX5_side_0 at w
  refine r_aload_n C dX5_side_0 rfl 0 rfl ?_
  refine r_iload_n C dX5_side_1 rfl 1 rfl ?_
  refine r_iconst (v := 1) C dX5_side_2 rfl ?_
  refine r_iadd C dX5_side_3 ?_
  refine r_cvI (rm' := rmX5_x) C mX5_x vX5_x k458 [aI (l1 + (1 : Int32))] [] rfl rfl (Nat.le_of_ble_eq_true rfl) (by decide) ⟨Nat.zero_le _, Nat.zero_le _⟩ 0 0 rfl rfl dX5_side_4 w (fun x1 h2 w => ?_)
  refine r_aload_n C dX5_side_7 rfl 0 rfl ?_
  refine r_iload_n C dX5_side_8 rfl 1 rfl ?_
  refine r_cvI (rm' := rmX5_x) C mX5_x vX5_x k458 [aI l1] [aI x1] rfl rfl (Nat.le_of_ble_eq_true rfl) (by decide) ⟨Nat.zero_le _, Nat.zero_le _⟩ 0 0 rfl rfl dX5_side_9 w (fun x3 h4 w => ?_)
  refine r_isub C dX5_side_12 ?_
  refine r_istore C dX5_side_13 (by decide) rfl ?_
  have w := w _ rfl
  refine r_aload_n C dX5_side_15 rfl 1 rfl ?_
  refine r_iload_n C dX5_side_16 rfl 2 rfl ?_
  refine r_iconst (v := 1) C dX5_side_17 rfl ?_
  refine r_iadd C dX5_side_18 ?_
  refine r_cvI (rm' := rmX5_y) C mX5_y vX5_y k467 [aI (l1 + (1 : Int32))] [] rfl rfl (Nat.le_of_ble_eq_true rfl) (by decide) ⟨Nat.zero_le _, Nat.zero_le _⟩ 0 0 rfl rfl dX5_side_19 w (fun x6 h7 w => ?_)
  refine r_aload_n C dX5_side_22 rfl 1 rfl ?_
  refine r_iload_n C dX5_side_23 rfl 2 rfl ?_
  refine r_cvI (rm' := rmX5_y) C mX5_y vX5_y k467 [aI l1] [aI x6] rfl rfl (Nat.le_of_ble_eq_true rfl) (by decide) ⟨Nat.zero_le _, Nat.zero_le _⟩ 0 0 rfl rfl dX5_side_24 w (fun x8 h9 w => ?_)
  refine r_isub C dX5_side_27 ?_
  refine r_istore C dX5_side_28 (by decide) rfl ?_
  have w := w _ rfl
  refine r_iload C dX5_side_30 1 rfl ?_
  refine r_iload_n C dX5_side_32 rfl 5 rfl ?_
  refine r_aload_n C dX5_side_33 rfl 2 rfl ?_
  refine r_iload_n C dX5_side_34 rfl 3 rfl ?_
  refine r_cvI (rm' := rmX5_y) C mX5_y vX5_y k467 [aI l1] [aI l3, aI (x1 - x3)] rfl rfl (Nat.le_of_ble_eq_true rfl) (by decide) ⟨Nat.zero_le _, Nat.zero_le _⟩ 0 0 rfl rfl dX5_side_35 w (fun x11 h12 w => ?_)
  refine r_isub C dX5_side_38 ?_
  refine r_imul C dX5_side_39 ?_
  refine r_iload C dX5_side_40 0 rfl ?_
  refine r_iload_n C dX5_side_42 rfl 4 rfl ?_
  refine r_aload_n C dX5_side_43 rfl 2 rfl ?_
  refine r_iload_n C dX5_side_44 rfl 3 rfl ?_
  refine r_cvI (rm' := rmX5_x) C mX5_x vX5_x k458 [aI l1] [aI l2, aI (x6 - x8), aI ((x1 - x3) * (l3 - x11))] rfl rfl (Nat.le_of_ble_eq_true rfl) (by decide) ⟨Nat.zero_le _, Nat.zero_le _⟩ 0 0 rfl rfl dX5_side_45 w (fun x13 h14 w => ?_)
  refine r_isub C dX5_side_48 ?_
  refine r_imul C dX5_side_49 ?_
  refine r_isub C dX5_side_50 ?_
  exact r_iret C D rfl (Nat.zero_le _) (Nat.zero_le _) dX5_side_51 w
theorem eX5_side {E : EV} {post : Option AV → AH → Prop} {h : AH} {l0 : Option Nat} {l1 : Int32} {l2 : Int32} {l3 : Int32} (w : PX5_side_0 E post h l0 l1 l2 l3) : sX5_side E [aP l0, aI l1, aI l2, aI l3] h post := Spec.of RX5 rfl rfl (Nat.le_of_ble_eq_true rfl) fun X C D => bX5_side_0 C D w
theorem dX5_lowerToEntry_0 : decode cX5_lowerToEntry 0 = .ok (.ldc2_w 80, 3) := by decide +kernel
theorem dX5_lowerToEntry_3 : decode cX5_lowerToEntry 3 = .ok (.lstore 6, 2) := by decide +kernel
theorem dX5_lowerToEntry_5 : decode cX5_lowerToEntry 5 = .ok (.lconst 0, 1) := by decide +kernel
theorem dX5_lowerToEntry_6 : decode cX5_lowerToEntry 6 = .ok (.lstore 8, 2) := by decide +kernel
theorem dX5_lowerToEntry_8 : decode cX5_lowerToEntry 8 = .ok (.lconst 1, 1) := by decide +kernel
theorem dX5_lowerToEntry_9 : decode cX5_lowerToEntry 9 = .ok (.lstore 10, 2) := by decide +kernel
theorem dX5_lowerToEntry_11 : decode cX5_lowerToEntry 11 = .ok (.lconst 0, 1) := by decide +kernel
theorem dX5_lowerToEntry_12 : decode cX5_lowerToEntry 12 = .ok (.lstore 12, 2) := by decide +kernel
theorem dX5_lowerToEntry_14 : decode cX5_lowerToEntry 14 = .ok (.iconst 0, 1) := by decide +kernel
theorem dX5_lowerToEntry_15 : decode cX5_lowerToEntry 15 = .ok (.istore 14, 2) := by decide +kernel
theorem dX5_lowerToEntry_17 : decode cX5_lowerToEntry 17 = .ok (.iload 14, 2) := by decide +kernel
theorem dX5_lowerToEntry_19 : decode cX5_lowerToEntry 19 = .ok (.aload_n 0, 1) := by decide +kernel
theorem dX5_lowerToEntry_20 : decode cX5_lowerToEntry 20 = .ok (.getfield 18, 3) := by decide +kernel
theorem dX5_lowerToEntry_23 : decode cX5_lowerToEntry 23 = .ok (.if_icmp .ge 117, 3) := by decide +kernel
theorem dX5_lowerToEntry_26 : decode cX5_lowerToEntry 26 = .ok (.aload_n 0, 1) := by decide +kernel
theorem dX5_lowerToEntry_27 : decode cX5_lowerToEntry 27 = .ok (.iload 14, 2) := by decide +kernel
theorem dX5_lowerToEntry_29 : decode cX5_lowerToEntry 29 = .ok (.iload_n 1, 1) := by decide +kernel
theorem dX5_lowerToEntry_30 : decode cX5_lowerToEntry 30 = .ok (.iload_n 2, 1) := by decide +kernel
theorem dX5_lowerToEntry_31 : decode cX5_lowerToEntry 31 = .ok (.invokevirtual 44, 3) := by decide +kernel
theorem dX5_lowerToEntry_34 : decode cX5_lowerToEntry 34 = .ok (.i2l, 1) := by decide +kernel
theorem dX5_lowerToEntry_35 : decode cX5_lowerToEntry 35 = .ok (.lstore 15, 2) := by decide +kernel
theorem dX5_lowerToEntry_37 : decode cX5_lowerToEntry 37 = .ok (.aload_n 0, 1) := by decide +kernel
theorem dX5_lowerToEntry_38 : decode cX5_lowerToEntry 38 = .ok (.iload 14, 2) := by decide +kernel
theorem dX5_lowerToEntry_40 : decode cX5_lowerToEntry 40 = .ok (.iload_n 1, 1) := by decide +kernel
theorem dX5_lowerToEntry_41 : decode cX5_lowerToEntry 41 = .ok (.iload_n 3, 1) := by decide +kernel
theorem dX5_lowerToEntry_42 : decode cX5_lowerToEntry 42 = .ok (.iadd, 1) := by decide +kernel
theorem dX5_lowerToEntry_43 : decode cX5_lowerToEntry 43 = .ok (.iload_n 2, 1) := by decide +kernel
theorem dX5_lowerToEntry_44 : decode cX5_lowerToEntry 44 = .ok (.iload 4, 2) := by decide +kernel
theorem dX5_lowerToEntry_46 : decode cX5_lowerToEntry 46 = .ok (.iadd, 1) := by decide +kernel
theorem dX5_lowerToEntry_47 : decode cX5_lowerToEntry 47 = .ok (.invokevirtual 44, 3) := by decide +kernel
theorem dX5_lowerToEntry_50 : decode cX5_lowerToEntry 50 = .ok (.i2l, 1) := by decide +kernel
theorem dX5_lowerToEntry_51 : decode cX5_lowerToEntry 51 = .ok (.lload 15, 2) := by decide +kernel
theorem dX5_lowerToEntry_53 : decode cX5_lowerToEntry 53 = .ok (.lsub, 1) := by decide +kernel
theorem dX5_lowerToEntry_54 : decode cX5_lowerToEntry 54 = .ok (.lstore 17, 2) := by decide +kernel
theorem dX5_lowerToEntry_56 : decode cX5_lowerToEntry 56 = .ok (.lload 17, 2) := by decide +kernel
theorem dX5_lowerToEntry_58 : decode cX5_lowerToEntry 58 = .ok (.lconst 0, 1) := by decide +kernel
theorem dX5_lowerToEntry_59 : decode cX5_lowerToEntry 59 = .ok (.lcmp, 1) := by decide +kernel
theorem dX5_lowerToEntry_60 : decode cX5_lowerToEntry 60 = .ok (.ifCond .ne 12, 3) := by decide +kernel
theorem dX5_lowerToEntry_63 : decode cX5_lowerToEntry 63 = .ok (.lload 15, 2) := by decide +kernel
theorem dX5_lowerToEntry_65 : decode cX5_lowerToEntry 65 = .ok (.lconst 0, 1) := by decide +kernel
theorem dX5_lowerToEntry_66 : decode cX5_lowerToEntry 66 = .ok (.lcmp, 1) := by decide +kernel
theorem dX5_lowerToEntry_67 : decode cX5_lowerToEntry 67 = .ok (.ifCond .gt 5, 3) := by decide +kernel
theorem dX5_lowerToEntry_70 : decode cX5_lowerToEntry 70 = .ok (.iconst 0, 1) := by decide +kernel
theorem dX5_lowerToEntry_71 : decode cX5_lowerToEntry 71 = .ok (.ireturn, 1) := by decide +kernel
theorem dX5_lowerToEntry_72 : decode cX5_lowerToEntry 72 = .ok (.lload 17, 2) := by decide +kernel
theorem dX5_lowerToEntry_74 : decode cX5_lowerToEntry 74 = .ok (.lconst 0, 1) := by decide +kernel
theorem dX5_lowerToEntry_75 : decode cX5_lowerToEntry 75 = .ok (.lcmp, 1) := by decide +kernel
theorem dX5_lowerToEntry_76 : decode cX5_lowerToEntry 76 = .ok (.ifCond .le 27, 3) := by decide +kernel
theorem dX5_lowerToEntry_79 : decode cX5_lowerToEntry 79 = .ok (.lload 15, 2) := by decide +kernel
theorem dX5_lowerToEntry_81 : decode cX5_lowerToEntry 81 = .ok (.lneg, 1) := by decide +kernel
theorem dX5_lowerToEntry_82 : decode cX5_lowerToEntry 82 = .ok (.lload 8, 2) := by decide +kernel
theorem dX5_lowerToEntry_84 : decode cX5_lowerToEntry 84 = .ok (.lmul, 1) := by decide +kernel
theorem dX5_lowerToEntry_85 : decode cX5_lowerToEntry 85 = .ok (.lload 6, 2) := by decide +kernel
theorem dX5_lowerToEntry_87 : decode cX5_lowerToEntry 87 = .ok (.lload 17, 2) := by decide +kernel
theorem dX5_lowerToEntry_89 : decode cX5_lowerToEntry 89 = .ok (.lmul, 1) := by decide +kernel
theorem dX5_lowerToEntry_90 : decode cX5_lowerToEntry 90 = .ok (.lcmp, 1) := by decide +kernel
theorem dX5_lowerToEntry_91 : decode cX5_lowerToEntry 91 = .ok (.ifCond .le 12, 3) := by decide +kernel
theorem dX5_lowerToEntry_94 : decode cX5_lowerToEntry 94 = .ok (.lload 15, 2) := by decide +kernel
theorem dX5_lowerToEntry_96 : decode cX5_lowerToEntry 96 = .ok (.lneg, 1) := by decide +kernel
theorem dX5_lowerToEntry_97 : decode cX5_lowerToEntry 97 = .ok (.lstore 6, 2) := by decide +kernel
theorem dX5_lowerToEntry_99 : decode cX5_lowerToEntry 99 = .ok (.lload 17, 2) := by decide +kernel
theorem dX5_lowerToEntry_101 : decode cX5_lowerToEntry 101 = .ok (.lstore 8, 2) := by decide +kernel
theorem dX5_lowerToEntry_103 : decode cX5_lowerToEntry 103 = .ok (.lload 17, 2) := by decide +kernel
theorem dX5_lowerToEntry_105 : decode cX5_lowerToEntry 105 = .ok (.lconst 0, 1) := by decide +kernel
theorem dX5_lowerToEntry_106 : decode cX5_lowerToEntry 106 = .ok (.lcmp, 1) := by decide +kernel
theorem dX5_lowerToEntry_107 : decode cX5_lowerToEntry 107 = .ok (.ifCond .ge 27, 3) := by decide +kernel
theorem dX5_lowerToEntry_110 : decode cX5_lowerToEntry 110 = .ok (.lload 15, 2) := by decide +kernel
theorem dX5_lowerToEntry_112 : decode cX5_lowerToEntry 112 = .ok (.lload 12, 2) := by decide +kernel
theorem dX5_lowerToEntry_114 : decode cX5_lowerToEntry 114 = .ok (.lmul, 1) := by decide +kernel
theorem dX5_lowerToEntry_115 : decode cX5_lowerToEntry 115 = .ok (.lload 10, 2) := by decide +kernel
theorem dX5_lowerToEntry_117 : decode cX5_lowerToEntry 117 = .ok (.lload 17, 2) := by decide +kernel
theorem dX5_lowerToEntry_119 : decode cX5_lowerToEntry 119 = .ok (.lneg, 1) := by decide +kernel
theorem dX5_lowerToEntry_120 : decode cX5_lowerToEntry 120 = .ok (.lmul, 1) := by decide +kernel
theorem dX5_lowerToEntry_121 : decode cX5_lowerToEntry 121 = .ok (.lcmp, 1) := by decide +kernel
theorem dX5_lowerToEntry_122 : decode cX5_lowerToEntry 122 = .ok (.ifCond .ge 12, 3) := by decide +kernel
theorem dX5_lowerToEntry_125 : decode cX5_lowerToEntry 125 = .ok (.lload 15, 2) := by decide +kernel
theorem dX5_lowerToEntry_127 : decode cX5_lowerToEntry 127 = .ok (.lstore 10, 2) := by decide +kernel
theorem dX5_lowerToEntry_129 : decode cX5_lowerToEntry 129 = .ok (.lload 17, 2) := by decide +kernel
theorem dX5_lowerToEntry_131 : decode cX5_lowerToEntry 131 = .ok (.lneg, 1) := by decide +kernel
theorem dX5_lowerToEntry_132 : decode cX5_lowerToEntry 132 = .ok (.lstore 12, 2) := by decide +kernel
theorem dX5_lowerToEntry_134 : decode cX5_lowerToEntry 134 = .ok (.iinc 14 1, 3) := by decide +kernel
theorem dX5_lowerToEntry_137 : decode cX5_lowerToEntry 137 = .ok (.goto (-120), 3) := by decide +kernel
theorem dX5_lowerToEntry_140 : decode cX5_lowerToEntry 140 = .ok (.lload 10, 2) := by decide +kernel
theorem dX5_lowerToEntry_142 : decode cX5_lowerToEntry 142 = .ok (.lconst 0, 1) := by decide +kernel
theorem dX5_lowerToEntry_143 : decode cX5_lowerToEntry 143 = .ok (.lcmp, 1) := by decide +kernel
theorem dX5_lowerToEntry_144 : decode cX5_lowerToEntry 144 = .ok (.ifCond .le 17, 3) := by decide +kernel
theorem dX5_lowerToEntry_147 : decode cX5_lowerToEntry 147 = .ok (.lload 6, 2) := by decide +kernel
theorem dX5_lowerToEntry_149 : decode cX5_lowerToEntry 149 = .ok (.lload 12, 2) := by decide +kernel
theorem dX5_lowerToEntry_151 : decode cX5_lowerToEntry 151 = .ok (.lmul, 1) := by decide +kernel
theorem dX5_lowerToEntry_152 : decode cX5_lowerToEntry 152 = .ok (.lload 10, 2) := by decide +kernel
theorem dX5_lowerToEntry_154 : decode cX5_lowerToEntry 154 = .ok (.lload 8, 2) := by decide +kernel
theorem dX5_lowerToEntry_156 : decode cX5_lowerToEntry 156 = .ok (.lmul, 1) := by decide +kernel
theorem dX5_lowerToEntry_157 : decode cX5_lowerToEntry 157 = .ok (.lcmp, 1) := by decide +kernel
theorem dX5_lowerToEntry_158 : decode cX5_lowerToEntry 158 = .ok (.ifCond .lt 5, 3) := by decide +kernel
theorem dX5_lowerToEntry_161 : decode cX5_lowerToEntry 161 = .ok (.iconst 0, 1) := by decide +kernel
theorem dX5_lowerToEntry_162 : decode cX5_lowerToEntry 162 = .ok (.ireturn, 1) := by decide +kernel
theorem dX5_lowerToEntry_163 : decode cX5_lowerToEntry 163 = .ok (.aload 5, 2) := by decide +kernel
theorem dX5_lowerToEntry_165 : decode cX5_lowerToEntry 165 = .ok (.lload 6, 2) := by decide +kernel
theorem dX5_lowerToEntry_167 : decode cX5_lowerToEntry 167 = .ok (.lconst 0, 1) := by decide +kernel
theorem dX5_lowerToEntry_168 : decode cX5_lowerToEntry 168 = .ok (.invokestatic 82, 3) := by decide +kernel
theorem dX5_lowerToEntry_171 : decode cX5_lowerToEntry 171 = .ok (.lload 8, 2) := by decide +kernel
theorem dX5_lowerToEntry_173 : decode cX5_lowerToEntry 173 = .ok (.invokevirtual 74, 3) := by decide +kernel
theorem dX5_lowerToEntry_176 : decode cX5_lowerToEntry 176 = .ok (.pop, 1) := by decide +kernel
theorem dX5_lowerToEntry_177 : decode cX5_lowerToEntry 177 = .ok (.iconst 1, 1) := by decide +kernel
theorem dX5_lowerToEntry_178 : decode cX5_lowerToEntry 178 = .ok (.ireturn, 1) := by decide +kernel
abbrev rmX5_lowerToEntry : Room := { frames := 2, cells := 0, slots := 0, locals := 80 }
abbrev sX5_lowerToEntry (E : EV) : List AV → AH → (Option AV → AH → Prop) → Prop := Spec E yX5_lowerToEntry cX5_lowerToEntry 19 (some .boolean) rmX5_lowerToEntry
theorem mX5_lowerToEntry : Mt yX5_lowerToEntry cX5_lowerToEntry 19 (some .boolean) 5 := ⟨k528, k5, by decide +kernel⟩
theorem vX5_lowerToEntry : MtV yX5_lowerToEntry 5 := ⟨k526, k527, by decide, (RX5, TX5, 8), rfl, rfl⟩
def PX5_lowerToEntry_103 (E : EV) (post : Option AV → AH → Prop) (J17 : AH → Option Nat → Int32 → Int32 → Int32 → Int32 → Option Nat → Int64 → Int64 → Int64 → Int64 → Int32 → Prop) (h : AH) (l0 : Option Nat) (l1 : Int32) (l2 : Int32) (l3 : Int32) (l4 : Int32) (l5 : Option Nat) (l6 : Int64) (l8 : Int64) (l10 : Int64) (l12 : Int64) (l14 : Int32) (l15 : Int64) (l17 : Int64) : Prop :=
  (0 ≤ (lg_cmp l17 (0 : Int64)) → J17 h l0 l1 l2 l3 l4 l5 l6 l8 l10 l12 (l14 + (1 : Int32))) ∧ (¬ 0 ≤ (lg_cmp l17 (0 : Int64)) → (0 ≤ (lg_cmp (l15 * l12) (l10 * (-l17))) → J17 h l0 l1 l2 l3 l4 l5 l6 l8 l10 l12 (l14 + (1 : Int32))) ∧ (¬ 0 ≤ (lg_cmp (l15 * l12) (l10 * (-l17))) → ∀ v2, v2 = (-l17) → J17 h l0 l1 l2 l3 l4 l5 l6 l8 l15 v2 (l14 + (1 : Int32))))
theorem bX5_lowerToEntry_103 {E : EV} {X : AX} {post : Option AV → AH → Prop} (C : Cb E X cX5_lowerToEntry RX5 19 rmX5_lowerToEntry) (D : Cr E X (some .boolean) rmX5_lowerToEntry "lowerToEntry" post) {J17 : AH → Option Nat → Int32 → Int32 → Int32 → Int32 → Option Nat → Int64 → Int64 → Int64 → Int64 → Int32 → Prop} (g17 : ∀ (h : AH) (l0 : Option Nat) (l1 : Int32) (l2 : Int32) (l3 : Int32) (l4 : Int32) (l5 : Option Nat) (l6 : Int64) (l8 : Int64) (l10 : Int64) (l12 : Int64) (l14 : Int32), J17 h l0 l1 l2 l3 l4 l5 l6 l8 l10 l12 l14 → Go E X 19 0 0 17 [(0, aP l0), (1, aI l1), (2, aI l2), (3, aI l3), (4, aI l4), (5, aP l5), (6, aJ l6), (8, aJ l8), (10, aJ l10), (12, aJ l12), (14, aI l14)] [] h) {h : AH} {l0 : Option Nat} {l1 : Int32} {l2 : Int32} {l3 : Int32} {l4 : Int32} {l5 : Option Nat} {l6 : Int64} {l8 : Int64} {l10 : Int64} {l12 : Int64} {l14 : Int32} {l15 : Int64} {l17 : Int64} (w : PX5_lowerToEntry_103 E post J17 h l0 l1 l2 l3 l4 l5 l6 l8 l10 l12 l14 l15 l17) : Go E X 19 0 0 103 [(0, aP l0), (1, aI l1), (2, aI l2), (3, aI l3), (4, aI l4), (5, aP l5), (6, aJ l6), (8, aJ l8), (10, aJ l10), (12, aJ l12), (14, aI l14), (15, aJ l15), (17, aJ l17)] [] h := by
  unfold PX5_lowerToEntry_103 at w
  refine r_lload C dX5_lowerToEntry_103 12 rfl ?_
  refine r_lconst (v := 0) C dX5_lowerToEntry_105 rfl ?_
  refine r_lcmp C dX5_lowerToEntry_106 ?_
  refine r_if_ge C dX5_lowerToEntry_107 (tgt := 134) rfl (fun hc => ?_) (fun hc => ?_)
  · have w := w.1 hc
    refine r_iinc C dX5_lowerToEntry_134 10 rfl (v := 1) rfl (by decide) rfl ?_
    refine r_goto C dX5_lowerToEntry_137 (tgt := 17) rfl ?_
    exact r_sub [1, 2, 3, 4, 5, 6, 7, 8, 9, 10, 0] rfl (g17 h l0 l1 l2 l3 l4 l5 l6 l8 l10 l12 (l14 + (1 : Int32)) w)
  · have w := w.2 hc
    refine r_lload C dX5_lowerToEntry_110 11 rfl ?_
    refine r_lload C dX5_lowerToEntry_112 9 rfl ?_
    refine r_lmul C dX5_lowerToEntry_114 ?_
    refine r_lload C dX5_lowerToEntry_115 8 rfl ?_
    refine r_lload C dX5_lowerToEntry_117 12 rfl ?_
    refine r_lneg C dX5_lowerToEntry_119 ?_
    refine r_lmul C dX5_lowerToEntry_120 ?_
    refine r_lcmp C dX5_lowerToEntry_121 ?_
    refine r_if_ge C dX5_lowerToEntry_122 (tgt := 134) rfl (fun hc => ?_) (fun hc => ?_)
    · have w := w.1 hc
      refine r_iinc C dX5_lowerToEntry_134 10 rfl (v := 1) rfl (by decide) rfl ?_
      refine r_goto C dX5_lowerToEntry_137 (tgt := 17) rfl ?_
      exact r_sub [1, 2, 3, 4, 5, 6, 7, 8, 9, 10, 0] rfl (g17 h l0 l1 l2 l3 l4 l5 l6 l8 l10 l12 (l14 + (1 : Int32)) w)
    · have w := w.2 hc
      refine r_lload C dX5_lowerToEntry_125 11 rfl ?_
      refine r_lstore C dX5_lowerToEntry_127 (by decide) rfl ?_
      refine r_lload C dX5_lowerToEntry_129 12 rfl ?_
      refine r_lneg C dX5_lowerToEntry_131 ?_
      refine r_lstore C dX5_lowerToEntry_132 (by decide) rfl ?_
      have w := w _ rfl
      skip
      refine r_iinc C dX5_lowerToEntry_134 10 rfl (v := 1) rfl (by decide) rfl ?_
      refine r_goto C dX5_lowerToEntry_137 (tgt := 17) rfl ?_
      exact r_sub [3, 4, 5, 6, 7, 8, 9, 10, 2, 1, 0] rfl (g17 h l0 l1 l2 l3 l4 l5 l6 l8 l15 (-l17) (l14 + (1 : Int32)) w)
def PX5_lowerToEntry_72 (E : EV) (post : Option AV → AH → Prop) (J17 : AH → Option Nat → Int32 → Int32 → Int32 → Int32 → Option Nat → Int64 → Int64 → Int64 → Int64 → Int32 → Prop) (h : AH) (l0 : Option Nat) (l1 : Int32) (l2 : Int32) (l3 : Int32) (l4 : Int32) (l5 : Option Nat) (l6 : Int64) (l8 : Int64) (l10 : Int64) (l12 : Int64) (l14 : Int32) (l15 : Int64) (l17 : Int64) : Prop :=
  ((lg_cmp l17 (0 : Int64)) ≤ 0 → PX5_lowerToEntry_103 E post J17 h l0 l1 l2 l3 l4 l5 l6 l8 l10 l12 l14 l15 l17) ∧ (¬ (lg_cmp l17 (0 : Int64)) ≤ 0 → ((lg_cmp ((-l15) * l8) (l6 * l17)) ≤ 0 → PX5_lowerToEntry_103 E post J17 h l0 l1 l2 l3 l4 l5 l6 l8 l10 l12 l14 l15 l17) ∧ (¬ (lg_cmp ((-l15) * l8) (l6 * l17)) ≤ 0 → ∀ v1, v1 = (-l15) → PX5_lowerToEntry_103 E post J17 h l0 l1 l2 l3 l4 l5 v1 l17 l10 l12 l14 l15 l17))
theorem bX5_lowerToEntry_72 {E : EV} {X : AX} {post : Option AV → AH → Prop} (C : Cb E X cX5_lowerToEntry RX5 19 rmX5_lowerToEntry) (D : Cr E X (some .boolean) rmX5_lowerToEntry "lowerToEntry" post) {J17 : AH → Option Nat → Int32 → Int32 → Int32 → Int32 → Option Nat → Int64 → Int64 → Int64 → Int64 → Int32 → Prop} (g17 : ∀ (h : AH) (l0 : Option Nat) (l1 : Int32) (l2 : Int32) (l3 : Int32) (l4 : Int32) (l5 : Option Nat) (l6 : Int64) (l8 : Int64) (l10 : Int64) (l12 : Int64) (l14 : Int32), J17 h l0 l1 l2 l3 l4 l5 l6 l8 l10 l12 l14 → Go E X 19 0 0 17 [(0, aP l0), (1, aI l1), (2, aI l2), (3, aI l3), (4, aI l4), (5, aP l5), (6, aJ l6), (8, aJ l8), (10, aJ l10), (12, aJ l12), (14, aI l14)] [] h) {h : AH} {l0 : Option Nat} {l1 : Int32} {l2 : Int32} {l3 : Int32} {l4 : Int32} {l5 : Option Nat} {l6 : Int64} {l8 : Int64} {l10 : Int64} {l12 : Int64} {l14 : Int32} {l15 : Int64} {l17 : Int64} (w : PX5_lowerToEntry_72 E post J17 h l0 l1 l2 l3 l4 l5 l6 l8 l10 l12 l14 l15 l17) : Go E X 19 0 0 72 [(0, aP l0), (1, aI l1), (2, aI l2), (3, aI l3), (4, aI l4), (5, aP l5), (6, aJ l6), (8, aJ l8), (10, aJ l10), (12, aJ l12), (14, aI l14), (15, aJ l15), (17, aJ l17)] [] h := by
  unfold PX5_lowerToEntry_72 at w
  refine r_lload C dX5_lowerToEntry_72 12 rfl ?_
  refine r_lconst (v := 0) C dX5_lowerToEntry_74 rfl ?_
  refine r_lcmp C dX5_lowerToEntry_75 ?_
  refine r_if_le C dX5_lowerToEntry_76 (tgt := 103) rfl (fun hc => ?_) (fun hc => ?_)
  · have w := w.1 hc
    exact (bX5_lowerToEntry_103 C D g17 w)
  · have w := w.2 hc
    refine r_lload C dX5_lowerToEntry_79 11 rfl ?_
    refine r_lneg C dX5_lowerToEntry_81 ?_
    refine r_lload C dX5_lowerToEntry_82 7 rfl ?_
    refine r_lmul C dX5_lowerToEntry_84 ?_
    refine r_lload C dX5_lowerToEntry_85 6 rfl ?_
    refine r_lload C dX5_lowerToEntry_87 12 rfl ?_
    refine r_lmul C dX5_lowerToEntry_89 ?_
    refine r_lcmp C dX5_lowerToEntry_90 ?_
    refine r_if_le C dX5_lowerToEntry_91 (tgt := 103) rfl (fun hc => ?_) (fun hc => ?_)
    · have w := w.1 hc
      exact (bX5_lowerToEntry_103 C D g17 w)
    · have w := w.2 hc
      refine r_lload C dX5_lowerToEntry_94 11 rfl ?_
      refine r_lneg C dX5_lowerToEntry_96 ?_
      refine r_lstore C dX5_lowerToEntry_97 (by decide) rfl ?_
      have w := w _ rfl
      skip
      refine r_lload C dX5_lowerToEntry_99 12 rfl ?_
      refine r_lstore C dX5_lowerToEntry_101 (by decide) rfl ?_
      exact r_sub [2, 3, 4, 5, 6, 7, 1, 0, 8, 9, 10, 11, 12] rfl (bX5_lowerToEntry_103 C D g17 w)
def PX5_lowerToEntry_17 (E : EV) (post : Option AV → AH → Prop) (J17 : AH → Option Nat → Int32 → Int32 → Int32 → Int32 → Option Nat → Int64 → Int64 → Int64 → Int64 → Int32 → Prop) (h : AH) (l0 : Option Nat) (l1 : Int32) (l2 : Int32) (l3 : Int32) (l4 : Int32) (l5 : Option Nat) (l6 : Int64) (l8 : Int64) (l10 : Int64) (l12 : Int64) (l14 : Int32) : Prop :=
  rdI h l0 5 2 fun x1 => (x1 ≤ l14 → ((lg_cmp l10 (0 : Int64)) ≤ 0 → post (some (aI (0 : Int32))) h) ∧ (¬ (lg_cmp l10 (0 : Int64)) ≤ 0 → ((lg_cmp (l6 * l12) (l10 * l8)) < 0 → ∀ v2, v2 = (if (0 : Int64) < l6 then l6 else (0 : Int64)) → CV (sX0_lowerTo E) l5 0 [aJ v2, aJ l8] h (kI fun x3 h4 => post (some (aI (1 : Int32))) h4)) ∧ (¬ (lg_cmp (l6 * l12) (l10 * l8)) < 0 → post (some (aI (0 : Int32))) h))) ∧ (¬ x1 ≤ l14 → CV (sX5_side E) l0 5 [aI l14, aI l1, aI l2] h (kI fun x2 h3 => CV (sX5_side E) l0 5 [aI l14, aI (l1 + l3), aI (l2 + l4)] h3 (kI fun x5 h6 => ∀ v7, v7 = (x5.toInt64 - x2.toInt64) → (¬ (lg_cmp v7 (0 : Int64)) = 0 → PX5_lowerToEntry_72 E post J17 h6 l0 l1 l2 l3 l4 l5 l6 l8 l10 l12 l14 x2.toInt64 v7) ∧ ((lg_cmp v7 (0 : Int64)) = 0 → (0 < (lg_cmp x2.toInt64 (0 : Int64)) → PX5_lowerToEntry_72 E post J17 h6 l0 l1 l2 l3 l4 l5 l6 l8 l10 l12 l14 x2.toInt64 v7) ∧ (¬ 0 < (lg_cmp x2.toInt64 (0 : Int64)) → post (some (aI (0 : Int32))) h6)))))
theorem bX5_lowerToEntry_17 {E : EV} {X : AX} {post : Option AV → AH → Prop} (C : Cb E X cX5_lowerToEntry RX5 19 rmX5_lowerToEntry) (D : Cr E X (some .boolean) rmX5_lowerToEntry "lowerToEntry" post) {J17 : AH → Option Nat → Int32 → Int32 → Int32 → Int32 → Option Nat → Int64 → Int64 → Int64 → Int64 → Int32 → Prop} (g17 : ∀ (h : AH) (l0 : Option Nat) (l1 : Int32) (l2 : Int32) (l3 : Int32) (l4 : Int32) (l5 : Option Nat) (l6 : Int64) (l8 : Int64) (l10 : Int64) (l12 : Int64) (l14 : Int32), J17 h l0 l1 l2 l3 l4 l5 l6 l8 l10 l12 l14 → Go E X 19 0 0 17 [(0, aP l0), (1, aI l1), (2, aI l2), (3, aI l3), (4, aI l4), (5, aP l5), (6, aJ l6), (8, aJ l8), (10, aJ l10), (12, aJ l12), (14, aI l14)] [] h) {h : AH} {l0 : Option Nat} {l1 : Int32} {l2 : Int32} {l3 : Int32} {l4 : Int32} {l5 : Option Nat} {l6 : Int64} {l8 : Int64} {l10 : Int64} {l12 : Int64} {l14 : Int32} (w : PX5_lowerToEntry_17 E post J17 h l0 l1 l2 l3 l4 l5 l6 l8 l10 l12 l14) : Go E X 19 0 0 17 [(0, aP l0), (1, aI l1), (2, aI l2), (3, aI l3), (4, aI l4), (5, aP l5), (6, aJ l6), (8, aJ l8), (10, aJ l10), (12, aJ l12), (14, aI l14)] [] h := by
  unfold PX5_lowerToEntry_17 at w
  refine r_iload C dX5_lowerToEntry_17 10 rfl ?_
  refine r_aload_n C dX5_lowerToEntry_19 rfl 0 rfl ?_
  refine r_getI C fcX5 (f := 2) (by decide) rfl k108 dX5_lowerToEntry_20 (w.mono fun x1 w => ?_)
  refine r_icmp_ge C dX5_lowerToEntry_23 (tgt := 140) rfl (fun hc => ?_) (fun hc => ?_)
  · have w := w.1 hc
    refine r_lload C dX5_lowerToEntry_140 8 rfl ?_
    refine r_lconst (v := 0) C dX5_lowerToEntry_142 rfl ?_
    refine r_lcmp C dX5_lowerToEntry_143 ?_
    refine r_if_le C dX5_lowerToEntry_144 (tgt := 161) rfl (fun hc => ?_) (fun hc => ?_)
    · have w := w.1 hc
      refine r_iconst (v := 0) C dX5_lowerToEntry_161 rfl ?_
      exact r_zret C D rfl (Or.inl rfl) (Nat.zero_le _) (Nat.zero_le _) dX5_lowerToEntry_162 w
    · have w := w.2 hc
      refine r_lload C dX5_lowerToEntry_147 6 rfl ?_
      refine r_lload C dX5_lowerToEntry_149 9 rfl ?_
      refine r_lmul C dX5_lowerToEntry_151 ?_
      refine r_lload C dX5_lowerToEntry_152 8 rfl ?_
      refine r_lload C dX5_lowerToEntry_154 7 rfl ?_
      refine r_lmul C dX5_lowerToEntry_156 ?_
      refine r_lcmp C dX5_lowerToEntry_157 ?_
      refine r_if_lt C dX5_lowerToEntry_158 (tgt := 163) rfl (fun hc => ?_) (fun hc => ?_)
      · have w := w.1 hc
        refine r_aload C dX5_lowerToEntry_163 5 rfl ?_
        refine r_lload C dX5_lowerToEntry_165 6 rfl ?_
        refine r_lconst (v := 0) C dX5_lowerToEntry_167 rfl ?_
        refine r_mmaxL C k530 k531 k12 k532 (by decide) (Nat.le_of_ble_eq_true rfl) (Nat.zero_le _) (Nat.zero_le _) dX5_lowerToEntry_168 ?_
        have w := w _ rfl
        generalize (if (0 : Int64) < l6 then l6 else (0 : Int64)) = v2 at w ⊢
        refine r_lload C dX5_lowerToEntry_171 7 rfl ?_
        refine r_cvI (rm' := rmX0_lowerTo) C mX0_lowerTo vX0_lowerTo k487 [aJ v2, aJ l8] [] rfl rfl (Nat.le_of_ble_eq_true rfl) (by decide) ⟨Nat.zero_le _, Nat.zero_le _⟩ 0 0 rfl rfl dX5_lowerToEntry_173 w (fun x3 h4 w => ?_)
        refine r_pop C dX5_lowerToEntry_176 rfl ?_
        refine r_iconst (v := 1) C dX5_lowerToEntry_177 rfl ?_
        exact r_zret C D rfl (Or.inr rfl) (Nat.zero_le _) (Nat.zero_le _) dX5_lowerToEntry_178 w
      · have w := w.2 hc
        refine r_iconst (v := 0) C dX5_lowerToEntry_161 rfl ?_
        exact r_zret C D rfl (Or.inl rfl) (Nat.zero_le _) (Nat.zero_le _) dX5_lowerToEntry_162 w
  · have w := w.2 hc
    refine r_aload_n C dX5_lowerToEntry_26 rfl 0 rfl ?_
    refine r_iload C dX5_lowerToEntry_27 10 rfl ?_
    refine r_iload_n C dX5_lowerToEntry_29 rfl 1 rfl ?_
    refine r_iload_n C dX5_lowerToEntry_30 rfl 2 rfl ?_
    refine r_cvI (rm' := rmX5_side) C mX5_side vX5_side k483 [aI l14, aI l1, aI l2] [] rfl rfl (Nat.le_of_ble_eq_true rfl) (by decide) ⟨Nat.zero_le _, Nat.zero_le _⟩ 0 0 rfl rfl dX5_lowerToEntry_31 w (fun x2 h3 w => ?_)
    refine r_i2l C dX5_lowerToEntry_34 ?_
    refine r_lstore C dX5_lowerToEntry_35 (by decide) rfl ?_
    refine r_aload_n C dX5_lowerToEntry_37 rfl 1 rfl ?_
    refine r_iload C dX5_lowerToEntry_38 11 rfl ?_
    refine r_iload_n C dX5_lowerToEntry_40 rfl 2 rfl ?_
    refine r_iload_n C dX5_lowerToEntry_41 rfl 4 rfl ?_
    refine r_iadd C dX5_lowerToEntry_42 ?_
    refine r_iload_n C dX5_lowerToEntry_43 rfl 3 rfl ?_
    refine r_iload C dX5_lowerToEntry_44 5 rfl ?_
    refine r_iadd C dX5_lowerToEntry_46 ?_
    refine r_cvI (rm' := rmX5_side) C mX5_side vX5_side k483 [aI l14, aI (l1 + l3), aI (l2 + l4)] [] rfl rfl (Nat.le_of_ble_eq_true rfl) (by decide) ⟨Nat.zero_le _, Nat.zero_le _⟩ 0 0 rfl rfl dX5_lowerToEntry_47 w (fun x5 h6 w => ?_)
    refine r_i2l C dX5_lowerToEntry_50 ?_
    refine r_lload C dX5_lowerToEntry_51 0 rfl ?_
    refine r_lsub C dX5_lowerToEntry_53 ?_
    refine r_lstore C dX5_lowerToEntry_54 (by decide) rfl ?_
    have w := w _ rfl
    skip
    refine r_lload C dX5_lowerToEntry_56 0 rfl ?_
    refine r_lconst (v := 0) C dX5_lowerToEntry_58 rfl ?_
    refine r_lcmp C dX5_lowerToEntry_59 ?_
    refine r_if_ne C dX5_lowerToEntry_60 (tgt := 72) rfl (fun hc => ?_) (fun hc => ?_)
    · have w := w.1 hc
      exact r_sub [2, 3, 4, 5, 6, 7, 8, 9, 10, 11, 12, 1, 0] rfl (bX5_lowerToEntry_72 C D g17 w)
    · have w := w.2 hc
      refine r_lload C dX5_lowerToEntry_63 1 rfl ?_
      refine r_lconst (v := 0) C dX5_lowerToEntry_65 rfl ?_
      refine r_lcmp C dX5_lowerToEntry_66 ?_
      refine r_if_gt C dX5_lowerToEntry_67 (tgt := 72) rfl (fun hc => ?_) (fun hc => ?_)
      · have w := w.1 hc
        exact r_sub [2, 3, 4, 5, 6, 7, 8, 9, 10, 11, 12, 1, 0] rfl (bX5_lowerToEntry_72 C D g17 w)
      · have w := w.2 hc
        refine r_iconst (v := 0) C dX5_lowerToEntry_70 rfl ?_
        exact r_zret C D rfl (Or.inl rfl) (Nat.zero_le _) (Nat.zero_le _) dX5_lowerToEntry_71 w
theorem lpX5_lowerToEntry_17 {E : EV} {X : AX} {post : Option AV → AH → Prop} (C : Cb E X cX5_lowerToEntry RX5 19 rmX5_lowerToEntry) (D : Cr E X (some .boolean) rmX5_lowerToEntry "lowerToEntry" post) (I : Nat → AH → Option Nat → Int32 → Int32 → Int32 → Int32 → Option Nat → Int64 → Int64 → Int64 → Int64 → Int32 → Prop) (step : ∀ (z : Nat) (h : AH) (l0 : Option Nat) (l1 : Int32) (l2 : Int32) (l3 : Int32) (l4 : Int32) (l5 : Option Nat) (l6 : Int64) (l8 : Int64) (l10 : Int64) (l12 : Int64) (l14 : Int32), I z h l0 l1 l2 l3 l4 l5 l6 l8 l10 l12 l14 → PX5_lowerToEntry_17 E post (fun h l0 l1 l2 l3 l4 l5 l6 l8 l10 l12 l14 => ∃ z', z' < z ∧ I z' h l0 l1 l2 l3 l4 l5 l6 l8 l10 l12 l14) h l0 l1 l2 l3 l4 l5 l6 l8 l10 l12 l14) : ∀ (z : Nat) (h : AH) (l0 : Option Nat) (l1 : Int32) (l2 : Int32) (l3 : Int32) (l4 : Int32) (l5 : Option Nat) (l6 : Int64) (l8 : Int64) (l10 : Int64) (l12 : Int64) (l14 : Int32), I z h l0 l1 l2 l3 l4 l5 l6 l8 l10 l12 l14 → Go E X 19 0 0 17 [(0, aP l0), (1, aI l1), (2, aI l2), (3, aI l3), (4, aI l4), (5, aP l5), (6, aJ l6), (8, aJ l8), (10, aJ l10), (12, aJ l12), (14, aI l14)] [] h := by
  intro z
  induction z using Nat.strongRecOn with
  | _ z ih =>
    intro h l0 l1 l2 l3 l4 l5 l6 l8 l10 l12 l14 hI
    exact bX5_lowerToEntry_17 C D (fun h l0 l1 l2 l3 l4 l5 l6 l8 l10 l12 l14 hJ => by obtain ⟨z', hz, hi⟩ := hJ; exact ih z' hz h l0 l1 l2 l3 l4 l5 l6 l8 l10 l12 l14 hi) (step z h l0 l1 l2 l3 l4 l5 l6 l8 l10 l12 l14 hI)
def PX5_lowerToEntry_0 (E : EV) (post : Option AV → AH → Prop) (J17 : AH → Option Nat → Int32 → Int32 → Int32 → Int32 → Option Nat → Int64 → Int64 → Int64 → Int64 → Int32 → Prop) (h : AH) (l0 : Option Nat) (l1 : Int32) (l2 : Int32) (l3 : Int32) (l4 : Int32) (l5 : Option Nat) : Prop :=
  J17 h l0 l1 l2 l3 l4 l5 (-1 : Int64) (0 : Int64) (1 : Int64) (0 : Int64) (0 : Int32)
theorem bX5_lowerToEntry_0 {E : EV} {X : AX} {post : Option AV → AH → Prop} (C : Cb E X cX5_lowerToEntry RX5 19 rmX5_lowerToEntry) (D : Cr E X (some .boolean) rmX5_lowerToEntry "lowerToEntry" post) {J17 : AH → Option Nat → Int32 → Int32 → Int32 → Int32 → Option Nat → Int64 → Int64 → Int64 → Int64 → Int32 → Prop} (g17 : ∀ (h : AH) (l0 : Option Nat) (l1 : Int32) (l2 : Int32) (l3 : Int32) (l4 : Int32) (l5 : Option Nat) (l6 : Int64) (l8 : Int64) (l10 : Int64) (l12 : Int64) (l14 : Int32), J17 h l0 l1 l2 l3 l4 l5 l6 l8 l10 l12 l14 → Go E X 19 0 0 17 [(0, aP l0), (1, aI l1), (2, aI l2), (3, aI l3), (4, aI l4), (5, aP l5), (6, aJ l6), (8, aJ l8), (10, aJ l10), (12, aJ l12), (14, aI l14)] [] h) {h : AH} {l0 : Option Nat} {l1 : Int32} {l2 : Int32} {l3 : Int32} {l4 : Int32} {l5 : Option Nat} (w : PX5_lowerToEntry_0 E post J17 h l0 l1 l2 l3 l4 l5) : Go E X 19 0 0 0 [(0, aP l0), (1, aI l1), (2, aI l2), (3, aI l3), (4, aI l4), (5, aP l5)] [] h := by
  unfold PX5_lowerToEntry_0 at w
  refine r_ldc2 (v := -1) C dX5_lowerToEntry_0 k529 ?_
  refine r_lstore C dX5_lowerToEntry_3 (by decide) rfl ?_
  refine r_lconst (v := 0) C dX5_lowerToEntry_5 rfl ?_
  refine r_lstore C dX5_lowerToEntry_6 (by decide) rfl ?_
  refine r_lconst (v := 1) C dX5_lowerToEntry_8 rfl ?_
  refine r_lstore C dX5_lowerToEntry_9 (by decide) rfl ?_
  refine r_lconst (v := 0) C dX5_lowerToEntry_11 rfl ?_
  refine r_lstore C dX5_lowerToEntry_12 (by decide) rfl ?_
  refine r_iconst (v := 0) C dX5_lowerToEntry_14 rfl ?_
  refine r_istore C dX5_lowerToEntry_15 (by decide) rfl ?_
  exact r_sub [5, 6, 7, 8, 9, 10, 4, 3, 2, 1, 0] rfl (g17 h l0 l1 l2 l3 l4 l5 (-1 : Int64) (0 : Int64) (1 : Int64) (0 : Int64) (0 : Int32) w)
theorem eX5_lowerToEntry {E : EV} {post : Option AV → AH → Prop} {h : AH} {l0 : Option Nat} {l1 : Int32} {l2 : Int32} {l3 : Int32} {l4 : Int32} {l5 : Option Nat} {J17 : AH → Option Nat → Int32 → Int32 → Int32 → Int32 → Option Nat → Int64 → Int64 → Int64 → Int64 → Int32 → Prop} (g17 : ∀ X : AX, Cb E X cX5_lowerToEntry RX5 19 rmX5_lowerToEntry → Cr E X (some .boolean) rmX5_lowerToEntry "lowerToEntry" post → ∀ (h : AH) (l0 : Option Nat) (l1 : Int32) (l2 : Int32) (l3 : Int32) (l4 : Int32) (l5 : Option Nat) (l6 : Int64) (l8 : Int64) (l10 : Int64) (l12 : Int64) (l14 : Int32), J17 h l0 l1 l2 l3 l4 l5 l6 l8 l10 l12 l14 → Go E X 19 0 0 17 [(0, aP l0), (1, aI l1), (2, aI l2), (3, aI l3), (4, aI l4), (5, aP l5), (6, aJ l6), (8, aJ l8), (10, aJ l10), (12, aJ l12), (14, aI l14)] [] h) (w : PX5_lowerToEntry_0 E post J17 h l0 l1 l2 l3 l4 l5) : sX5_lowerToEntry E [aP l0, aI l1, aI l2, aI l3, aI l4, aP l5] h post := Spec.of RX5 rfl rfl (Nat.le_of_ble_eq_true rfl) fun X C D => bX5_lowerToEntry_0 C D (g17 X C D) w
