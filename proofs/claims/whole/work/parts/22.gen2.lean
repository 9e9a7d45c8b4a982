theorem dX7_read_0 : decode cX7_read 0 = .ok (.aload_n 0, 1) := by decide +kernel
theorem dX7_read_1 : decode cX7_read 1 = .ok (.getfield 12, 3) := by decide +kernel
theorem dX7_read_4 : decode cX7_read 4 = .ok (.invokevirtual 25, 3) := by decide +kernel
theorem dX7_read_7 : decode cX7_read 7 = .ok (.aload_n 1, 1) := by decide +kernel
theorem dX7_read_8 : decode cX7_read 8 = .ok (.iconst 0, 1) := by decide +kernel
theorem dX7_read_9 : decode cX7_read 9 = .ok (.putfield 28, 3) := by decide +kernel
theorem dX7_read_12 : decode cX7_read 12 = .ok (.iconst 0, 1) := by decide +kernel
theorem dX7_read_13 : decode cX7_read 13 = .ok (.istore_n 2, 1) := by decide +kernel
theorem dX7_read_14 : decode cX7_read 14 = .ok (.iload_n 2, 1) := by decide +kernel
theorem dX7_read_15 : decode cX7_read 15 = .ok (.iconst 3, 1) := by decide +kernel
theorem dX7_read_16 : decode cX7_read 16 = .ok (.if_icmp .ge 37, 3) := by decide +kernel
theorem dX7_read_19 : decode cX7_read 19 = .ok (.aload_n 1, 1) := by decide +kernel
theorem dX7_read_20 : decode cX7_read 20 = .ok (.invokevirtual 34, 3) := by decide +kernel
theorem dX7_read_23 : decode cX7_read 23 = .ok (.ifCond .ne 30, 3) := by decide +kernel
theorem dX7_read_26 : decode cX7_read 26 = .ok (.aload_n 0, 1) := by decide +kernel
theorem dX7_read_27 : decode cX7_read 27 = .ok (.aload_n 1, 1) := by decide +kernel
theorem dX7_read_28 : decode cX7_read 28 = .ok (.invokevirtual 38, 3) := by decide +kernel
theorem dX7_read_31 : decode cX7_read 31 = .ok (.ifCond .ne 5, 3) := by decide +kernel
theorem dX7_read_34 : decode cX7_read 34 = .ok (.iconst 0, 1) := by decide +kernel
theorem dX7_read_35 : decode cX7_read 35 = .ok (.ireturn, 1) := by decide +kernel
theorem dX7_read_36 : decode cX7_read 36 = .ok (.aload_n 0, 1) := by decide +kernel
theorem dX7_read_37 : decode cX7_read 37 = .ok (.getfield 12, 3) := by decide +kernel
theorem dX7_read_40 : decode cX7_read 40 = .ok (.aload_n 0, 1) := by decide +kernel
theorem dX7_read_41 : decode cX7_read 41 = .ok (.getfield 21, 3) := by decide +kernel
theorem dX7_read_44 : decode cX7_read 44 = .ok (.invokevirtual 42, 3) := by decide +kernel
theorem dX7_read_47 : decode cX7_read 47 = .ok (.iinc 2 1, 3) := by decide +kernel
theorem dX7_read_50 : decode cX7_read 50 = .ok (.goto (-36), 3) := by decide +kernel
theorem dX7_read_53 : decode cX7_read 53 = .ok (.aload_n 1, 1) := by decide +kernel
theorem dX7_read_54 : decode cX7_read 54 = .ok (.invokevirtual 34, 3) := by decide +kernel
theorem dX7_read_57 : decode cX7_read 57 = .ok (.ifCond .eq 17, 3) := by decide +kernel
theorem dX7_read_60 : decode cX7_read 60 = .ok (.aload_n 0, 1) := by decide +kernel
theorem dX7_read_61 : decode cX7_read 61 = .ok (.getfield 12, 3) := by decide +kernel
theorem dX7_read_64 : decode cX7_read 64 = .ok (.invokevirtual 46, 3) := by decide +kernel
theorem dX7_read_67 : decode cX7_read 67 = .ok (.ifCond .ne 7, 3) := by decide +kernel
theorem dX7_read_70 : decode cX7_read 70 = .ok (.iconst 1, 1) := by decide +kernel
theorem dX7_read_71 : decode cX7_read 71 = .ok (.goto 4, 3) := by decide +kernel
theorem dX7_read_74 : decode cX7_read 74 = .ok (.iconst 0, 1) := by decide +kernel
theorem dX7_read_75 : decode cX7_read 75 = .ok (.ireturn, 1) := by decide +kernel
abbrev rmX7_read : Room := { frames := 5, cells := 0, slots := 0, locals := 200 }
abbrev sX7_read (E : EV) : List AV → AH → (Option AV → AH → Prop) → Prop := Spec E yX7_read cX7_read 3 (some .boolean) rmX7_read
theorem mX7_read : Mt yX7_read cX7_read 3 (some .boolean) 1 := ⟨k372, k4, by decide +kernel⟩
theorem vX7_read : MtV yX7_read 7 := ⟨k370, k371, by decide, (RX7, TX7, 2), rfl, rfl⟩
def PX7_read_53 (E : EV) (post : Option AV → AH → Prop) (h : AH) (l0 : Option Nat) (l1 : Option Nat) : Prop :=
  CV (sX9_isAtEnd E) l1 9 [] h (kI fun x1 h2 => (x1 = 0 → post (some (aI (0 : Int32))) h2) ∧ (¬ x1 = 0 → rdP h2 l0 7 0 fun x3 => CV (sX6_isEmpty E) x3 6 [] h2 (kI fun x4 h5 => (¬ x4 = 0 → post (some (aI (0 : Int32))) h5) ∧ (x4 = 0 → post (some (aI (1 : Int32))) h5))))
theorem bX7_read_53 {E : EV} {X : AX} {post : Option AV → AH → Prop} (C : Cb E X cX7_read RX7 3 rmX7_read) (D : Cr E X (some .boolean) rmX7_read "read" post) {h : AH} {l0 : Option Nat} {l1 : Option Nat} (w : PX7_read_53 E post h l0 l1) : Go E X 3 0 0 53 [(0, aP l0), (1, aP l1)] [] h := by
  unfold PX7_read_53 at w
  refine r_aload_n C dX7_read_53 rfl 1 rfl ?_
  refine r_cvI (rm' := rmX9_isAtEnd) C mX9_isAtEnd vX9_isAtEnd k377 [] [] rfl rfl (Nat.le_of_ble_eq_true rfl) (by decide) ⟨Nat.zero_le _, Nat.zero_le _⟩ 0 0 rfl rfl dX7_read_54 w (fun x1 h2 w => ?_)
  refine r_if_eq C dX7_read_57 (tgt := 74) rfl (fun hc => ?_) (fun hc => ?_)
  · have w := w.1 hc
    refine r_iconst (v := 0) C dX7_read_74 rfl ?_
    exact r_zret C D rfl (Or.inl rfl) (Nat.zero_le _) (Nat.zero_le _) dX7_read_75 w
  · have w := w.2 hc
    refine r_aload_n C dX7_read_60 rfl 0 rfl ?_
    refine r_getP C fcX7 (f := 0) (by decide) rfl k134 dX7_read_61 (w.mono fun x3 w => ?_)
    refine r_cvI (rm' := rmX6_isEmpty) C mX6_isEmpty vX6_isEmpty k458 [] [] rfl rfl (Nat.le_of_ble_eq_true rfl) (by decide) ⟨Nat.zero_le _, Nat.zero_le _⟩ 0 0 rfl rfl dX7_read_64 w (fun x4 h5 w => ?_)
    refine r_if_ne C dX7_read_67 (tgt := 74) rfl (fun hc => ?_) (fun hc => ?_)
    · have w := w.1 hc
      refine r_iconst (v := 0) C dX7_read_74 rfl ?_
      exact r_zret C D rfl (Or.inl rfl) (Nat.zero_le _) (Nat.zero_le _) dX7_read_75 w
    · have w := w.2 hc
      refine r_iconst (v := 1) C dX7_read_70 rfl ?_
      refine r_goto C dX7_read_71 (tgt := 75) rfl ?_
      exact r_zret C D rfl (Or.inr rfl) (Nat.zero_le _) (Nat.zero_le _) dX7_read_75 w
def PX7_read_14 (E : EV) (post : Option AV → AH → Prop) (J14 : AH → Option Nat → Option Nat → Int32 → Prop) (h : AH) (l0 : Option Nat) (l1 : Option Nat) (l2 : Int32) : Prop :=
  ((3 : Int32) ≤ l2 → PX7_read_53 E post h l0 l1) ∧ (¬ (3 : Int32) ≤ l2 → CV (sX9_isAtEnd E) l1 9 [] h (kI fun x1 h2 => (¬ x1 = 0 → PX7_read_53 E post h2 l0 l1) ∧ (x1 = 0 → CV (sX7_readPiece E) l0 7 [aP l1] h2 (kI fun x3 h4 => (¬ x3 = 0 → rdP h4 l0 7 0 fun x5 => rdP h4 l0 7 1 fun x6 => CV (sX6_addPiece E) x5 6 [aP x6] h4 (kV fun h8 => J14 h8 l0 l1 (l2 + (1 : Int32)))) ∧ (x3 = 0 → post (some (aI (0 : Int32))) h4)))))
theorem bX7_read_14 {E : EV} {X : AX} {post : Option AV → AH → Prop} (C : Cb E X cX7_read RX7 3 rmX7_read) (D : Cr E X (some .boolean) rmX7_read "read" post) {J14 : AH → Option Nat → Option Nat → Int32 → Prop} (g14 : ∀ (h : AH) (l0 : Option Nat) (l1 : Option Nat) (l2 : Int32), J14 h l0 l1 l2 → Go E X 3 0 0 14 [(0, aP l0), (1, aP l1), (2, aI l2)] [] h) {h : AH} {l0 : Option Nat} {l1 : Option Nat} {l2 : Int32} (w : PX7_read_14 E post J14 h l0 l1 l2) : Go E X 3 0 0 14 [(0, aP l0), (1, aP l1), (2, aI l2)] [] h := by
  unfold PX7_read_14 at w
  refine r_iload_n C dX7_read_14 rfl 2 rfl ?_
  refine r_iconst (v := 3) C dX7_read_15 rfl ?_
  refine r_icmp_ge C dX7_read_16 (tgt := 53) rfl (fun hc => ?_) (fun hc => ?_)
  · have w := w.1 hc
    exact r_sub [0, 1] rfl (bX7_read_53 C D w)
  · have w := w.2 hc
    refine r_aload_n C dX7_read_19 rfl 1 rfl ?_
    refine r_cvI (rm' := rmX9_isAtEnd) C mX9_isAtEnd vX9_isAtEnd k377 [] [] rfl rfl (Nat.le_of_ble_eq_true rfl) (by decide) ⟨Nat.zero_le _, Nat.zero_le _⟩ 0 0 rfl rfl dX7_read_20 w (fun x1 h2 w => ?_)
    refine r_if_ne C dX7_read_23 (tgt := 53) rfl (fun hc => ?_) (fun hc => ?_)
    · have w := w.1 hc
      exact r_sub [0, 1] rfl (bX7_read_53 C D w)
    · have w := w.2 hc
      refine r_aload_n C dX7_read_26 rfl 0 rfl ?_
      refine r_aload_n C dX7_read_27 rfl 1 rfl ?_
      refine r_cvI (rm' := rmX7_readPiece) C mX7_readPiece vX7_readPiece k389 [aP l1] [] rfl rfl (Nat.le_of_ble_eq_true rfl) (by decide) ⟨Nat.zero_le _, Nat.zero_le _⟩ 0 0 rfl rfl dX7_read_28 w (fun x3 h4 w => ?_)
      refine r_if_ne C dX7_read_31 (tgt := 36) rfl (fun hc => ?_) (fun hc => ?_)
      · have w := w.1 hc
        refine r_aload_n C dX7_read_36 rfl 0 rfl ?_
        refine r_getP C fcX7 (f := 0) (by decide) rfl k134 dX7_read_37 (w.mono fun x5 w => ?_)
        refine r_aload_n C dX7_read_40 rfl 0 rfl ?_
        refine r_getP C fcX7 (f := 1) (by decide) rfl k136 dX7_read_41 (w.mono fun x6 w => ?_)
        refine r_cvV (rm' := rmX6_addPiece) C mX6_addPiece vX6_addPiece k438 [aP x6] [] rfl rfl (Nat.le_of_ble_eq_true rfl) (by decide) ⟨Nat.zero_le _, Nat.zero_le _⟩ 0 0 rfl rfl dX7_read_44 w (fun h8 w => ?_)
        refine r_iinc C dX7_read_47 2 rfl (v := 1) rfl (by decide) rfl ?_
        refine r_goto C dX7_read_50 (tgt := 14) rfl ?_
        exact r_sub [1, 2, 0] rfl (g14 h8 l0 l1 (l2 + (1 : Int32)) w)
      · have w := w.2 hc
        refine r_iconst (v := 0) C dX7_read_34 rfl ?_
        exact r_zret C D rfl (Or.inl rfl) (Nat.zero_le _) (Nat.zero_le _) dX7_read_35 w
theorem lpX7_read_14 {E : EV} {X : AX} {post : Option AV → AH → Prop} (C : Cb E X cX7_read RX7 3 rmX7_read) (D : Cr E X (some .boolean) rmX7_read "read" post) (I : Nat → AH → Option Nat → Option Nat → Int32 → Prop) (step : ∀ (z : Nat) (h : AH) (l0 : Option Nat) (l1 : Option Nat) (l2 : Int32), I z h l0 l1 l2 → PX7_read_14 E post (fun h l0 l1 l2 => ∃ z', z' < z ∧ I z' h l0 l1 l2) h l0 l1 l2) : ∀ (z : Nat) (h : AH) (l0 : Option Nat) (l1 : Option Nat) (l2 : Int32), I z h l0 l1 l2 → Go E X 3 0 0 14 [(0, aP l0), (1, aP l1), (2, aI l2)] [] h := by
  intro z
  induction z using Nat.strongRecOn with
  | _ z ih =>
    intro h l0 l1 l2 hI
    exact bX7_read_14 C D (fun h l0 l1 l2 hJ => by obtain ⟨z', hz, hi⟩ := hJ; exact ih z' hz h l0 l1 l2 hi) (step z h l0 l1 l2 hI)
def PX7_read_0 (E : EV) (post : Option AV → AH → Prop) (J14 : AH → Option Nat → Option Nat → Int32 → Prop) (h : AH) (l0 : Option Nat) (l1 : Option Nat) : Prop :=
  rdP h l0 7 0 fun x1 => CV (sX6_clear E) x1 6 [] h (kV fun h3 => wr h3 l1 9 2 (aI (0 : Int32)) fun h4 => J14 h4 l0 l1 (0 : Int32))
theorem bX7_read_0 {E : EV} {X : AX} {post : Option AV → AH → Prop} (C : Cb E X cX7_read RX7 3 rmX7_read) (D : Cr E X (some .boolean) rmX7_read "read" post) {J14 : AH → Option Nat → Option Nat → Int32 → Prop} (g14 : ∀ (h : AH) (l0 : Option Nat) (l1 : Option Nat) (l2 : Int32), J14 h l0 l1 l2 → Go E X 3 0 0 14 [(0, aP l0), (1, aP l1), (2, aI l2)] [] h) {h : AH} {l0 : Option Nat} {l1 : Option Nat} (w : PX7_read_0 E post J14 h l0 l1) : Go E X 3 0 0 0 [(0, aP l0), (1, aP l1)] [] h := by
  unfold PX7_read_0 at w
  refine r_aload_n C dX7_read_0 rfl 0 rfl ?_
  refine r_getP C fcX7 (f := 0) (by decide) rfl k134 dX7_read_1 (w.mono fun x1 w => ?_)
  refine r_cvV (rm' := rmX6_clear) C mX6_clear vX6_clear k373 [] [] rfl rfl (Nat.le_of_ble_eq_true rfl) (by decide) ⟨Nat.zero_le _, Nat.zero_le _⟩ 0 0 rfl rfl dX7_read_4 w (fun h3 w => ?_)
  refine r_aload_n C dX7_read_7 rfl 1 rfl ?_
  refine r_iconst (v := 0) C dX7_read_8 rfl ?_
  refine r_put C fcX9 (f := 2) (by decide) rfl rfl rfl rfl k78 dX7_read_9 (w.mono fun h4 w => ?_)
  refine r_iconst (v := 0) C dX7_read_12 rfl ?_
  refine r_istore_n C dX7_read_13 rfl (by decide) rfl ?_
  exact r_sub [1, 2, 0] rfl (g14 h4 l0 l1 (0 : Int32) w)
theorem eX7_read {E : EV} {post : Option AV → AH → Prop} {h : AH} {l0 : Option Nat} {l1 : Option Nat} {J14 : AH → Option Nat → Option Nat → Int32 → Prop} (g14 : ∀ X : AX, Cb E X cX7_read RX7 3 rmX7_read → Cr E X (some .boolean) rmX7_read "read" post → ∀ (h : AH) (l0 : Option Nat) (l1 : Option Nat) (l2 : Int32), J14 h l0 l1 l2 → Go E X 3 0 0 14 [(0, aP l0), (1, aP l1), (2, aI l2)] [] h) (w : PX7_read_0 E post J14 h l0 l1) : sX7_read E [aP l0, aP l1] h post := Spec.of RX7 rfl rfl (Nat.le_of_ble_eq_true rfl) fun X C D => bX7_read_0 C D (g14 X C D) w
theorem dX8_add_0 : decode cX8_add 0 = .ok (.aload_n 0, 1) := by decide +kernel
theorem dX8_add_1 : decode cX8_add 1 = .ok (.getfield 42, 3) := by decide +kernel
theorem dX8_add_4 : decode cX8_add 4 = .ok (.aload_n 0, 1) := by decide +kernel
theorem dX8_add_5 : decode cX8_add 5 = .ok (.getfield 17, 3) := by decide +kernel
theorem dX8_add_8 : decode cX8_add 8 = .ok (.arraylength, 1) := by decide +kernel
theorem dX8_add_9 : decode cX8_add 9 = .ok (.if_icmp .ge 24, 3) := by decide +kernel
theorem dX8_add_12 : decode cX8_add 12 = .ok (.aload_n 0, 1) := by decide +kernel
theorem dX8_add_13 : decode cX8_add 13 = .ok (.aload_n 0, 1) := by decide +kernel
theorem dX8_add_14 : decode cX8_add 14 = .ok (.getfield 42, 3) := by decide +kernel
theorem dX8_add_17 : decode cX8_add 17 = .ok (.aload_n 1, 1) := by decide +kernel
theorem dX8_add_18 : decode cX8_add 18 = .ok (.iload_n 2, 1) := by decide +kernel
theorem dX8_add_19 : decode cX8_add 19 = .ok (.iload_n 3, 1) := by decide +kernel
theorem dX8_add_20 : decode cX8_add 20 = .ok (.invokevirtual 55, 3) := by decide +kernel
theorem dX8_add_23 : decode cX8_add 23 = .ok (.aload_n 0, 1) := by decide +kernel
theorem dX8_add_24 : decode cX8_add 24 = .ok (.dup, 1) := by decide +kernel
theorem dX8_add_25 : decode cX8_add 25 = .ok (.getfield 42, 3) := by decide +kernel
theorem dX8_add_28 : decode cX8_add 28 = .ok (.iconst 1, 1) := by decide +kernel
theorem dX8_add_29 : decode cX8_add 29 = .ok (.iadd, 1) := by decide +kernel
theorem dX8_add_30 : decode cX8_add 30 = .ok (.putfield 42, 3) := by decide +kernel
theorem dX8_add_33 : decode cX8_add 33 = .ok (.return_, 1) := by decide +kernel
abbrev rmX8_add : Room := { frames := 2, cells := 0, slots := 0, locals := 80 }
abbrev sX8_add (E : EV) : List AV → AH → (Option AV → AH → Prop) → Prop := Spec E yX8_add cX8_add 4 none rmX8_add
theorem mX8_add : Mt yX8_add cX8_add 4 none 3 := ⟨k769, k10, by decide +kernel⟩
theorem vX8_add : MtV yX8_add 8 := ⟨k767, k768, by decide, (RX8, TX8, 9), rfl, rfl⟩
def PX8_add_0 (E : EV) (post : Option AV → AH → Prop) (h : AH) (l0 : Option Nat) (l1 : Option Nat) (l2 : Int32) (l3 : Int32) : Prop :=
  rdI h l0 8 5 fun x1 => rdP h l0 8 2 fun x2 => alenP h x2 13 fun x3 => (x3 ≤ x1 → post none h) ∧ (¬ x3 ≤ x1 → rdI h l0 8 5 fun x4 => CV (sX8_setItem E) l0 8 [aI x4, aP l1, aI l2, aI l3] h (kV fun h6 => rdI h6 l0 8 5 fun x7 => wr h6 l0 8 5 (aI (x7 + (1 : Int32))) fun h8 => post none h8))
theorem bX8_add_0 {E : EV} {X : AX} {post : Option AV → AH → Prop} (C : Cb E X cX8_add RX8 4 rmX8_add) (D : Cr E X none rmX8_add "add" post) {h : AH} {l0 : Option Nat} {l1 : Option Nat} {l2 : Int32} {l3 : Int32} (w : PX8_add_0 E post h l0 l1 l2 l3) : Go E X 4 0 0 0 [(0, aP l0), (1, aP l1), (2, aI l2), (3, aI l3)] [] h := by
  unfold PX8_add_0 at w
  refine r_aload_n C dX8_add_0 rfl 0 rfl ?_
  refine r_getI C fcX8 (f := 5) (by decide) rfl k259 dX8_add_1 (w.mono fun x1 w => ?_)
  refine r_aload_n C dX8_add_4 rfl 0 rfl ?_
  refine r_getP C fcX8 (f := 2) (by decide) rfl k256 dX8_add_5 (w.mono fun x2 w => ?_)
  refine r_alenP 13 (by decide) 3 rfl C dX8_add_8 (w.mono fun x3 w => ?_)
  refine r_icmp_ge C dX8_add_9 (tgt := 33) rfl (fun hc => ?_) (fun hc => ?_)
  · have w := w.1 hc
    exact r_vret C D rfl (Nat.zero_le _) (Nat.zero_le _) dX8_add_33 w
  · have w := w.2 hc
    refine r_aload_n C dX8_add_12 rfl 0 rfl ?_
    refine r_aload_n C dX8_add_13 rfl 0 rfl ?_
    refine r_getI C fcX8 (f := 5) (by decide) rfl k259 dX8_add_14 (w.mono fun x4 w => ?_)
    refine r_aload_n C dX8_add_17 rfl 1 rfl ?_
    refine r_iload_n C dX8_add_18 rfl 2 rfl ?_
    refine r_iload_n C dX8_add_19 rfl 3 rfl ?_
    refine r_cvV (rm' := rmX8_setItem) C mX8_setItem vX8_setItem k521 [aI x4, aP l1, aI l2, aI l3] [] rfl rfl (Nat.le_of_ble_eq_true rfl) (by decide) ⟨Nat.zero_le _, Nat.zero_le _⟩ 0 0 rfl rfl dX8_add_20 w (fun h6 w => ?_)
    refine r_aload_n C dX8_add_23 rfl 0 rfl ?_
    refine r_dup C dX8_add_24 rfl ?_
    refine r_getI C fcX8 (f := 5) (by decide) rfl k259 dX8_add_25 (w.mono fun x7 w => ?_)
    refine r_iconst (v := 1) C dX8_add_28 rfl ?_
    refine r_iadd C dX8_add_29 ?_
    refine r_put C fcX8 (f := 5) (by decide) rfl rfl rfl rfl k259 dX8_add_30 (w.mono fun h8 w => ?_)
    exact r_vret C D rfl (Nat.zero_le _) (Nat.zero_le _) dX8_add_33 w
theorem eX8_add {E : EV} {post : Option AV → AH → Prop} {h : AH} {l0 : Option Nat} {l1 : Option Nat} {l2 : Int32} {l3 : Int32} (w : PX8_add_0 E post h l0 l1 l2 l3) : sX8_add E [aP l0, aP l1, aI l2, aI l3] h post := Spec.of RX8 rfl rfl (Nat.le_of_ble_eq_true rfl) fun X C D => bX8_add_0 C D w
theorem dX8_remove_0 : decode cX8_remove 0 = .ok (.iload_n 1, 1) := by decide +kernel
theorem dX8_remove_1 : decode cX8_remove 1 = .ok (.istore_n 2, 1) := by decide +kernel
theorem dX8_remove_2 : decode cX8_remove 2 = .ok (.iload_n 2, 1) := by decide +kernel
theorem dX8_remove_3 : decode cX8_remove 3 = .ok (.aload_n 0, 1) := by decide +kernel
theorem dX8_remove_4 : decode cX8_remove 4 = .ok (.getfield 42, 3) := by decide +kernel
theorem dX8_remove_7 : decode cX8_remove 7 = .ok (.iconst 1, 1) := by decide +kernel
theorem dX8_remove_8 : decode cX8_remove 8 = .ok (.isub, 1) := by decide +kernel
theorem dX8_remove_9 : decode cX8_remove 9 = .ok (.if_icmp .ge 35, 3) := by decide +kernel
theorem dX8_remove_12 : decode cX8_remove 12 = .ok (.aload_n 0, 1) := by decide +kernel
theorem dX8_remove_13 : decode cX8_remove 13 = .ok (.iload_n 2, 1) := by decide +kernel
theorem dX8_remove_14 : decode cX8_remove 14 = .ok (.aload_n 0, 1) := by decide +kernel
theorem dX8_remove_15 : decode cX8_remove 15 = .ok (.iload_n 2, 1) := by decide +kernel
theorem dX8_remove_16 : decode cX8_remove 16 = .ok (.iconst 1, 1) := by decide +kernel
theorem dX8_remove_17 : decode cX8_remove 17 = .ok (.iadd, 1) := by decide +kernel
theorem dX8_remove_18 : decode cX8_remove 18 = .ok (.invokevirtual 45, 3) := by decide +kernel
theorem dX8_remove_21 : decode cX8_remove 21 = .ok (.aload_n 0, 1) := by decide +kernel
theorem dX8_remove_22 : decode cX8_remove 22 = .ok (.iload_n 2, 1) := by decide +kernel
theorem dX8_remove_23 : decode cX8_remove 23 = .ok (.iconst 1, 1) := by decide +kernel
theorem dX8_remove_24 : decode cX8_remove 24 = .ok (.iadd, 1) := by decide +kernel
theorem dX8_remove_25 : decode cX8_remove 25 = .ok (.invokevirtual 48, 3) := by decide +kernel
theorem dX8_remove_28 : decode cX8_remove 28 = .ok (.aload_n 0, 1) := by decide +kernel
theorem dX8_remove_29 : decode cX8_remove 29 = .ok (.iload_n 2, 1) := by decide +kernel
theorem dX8_remove_30 : decode cX8_remove 30 = .ok (.iconst 1, 1) := by decide +kernel
theorem dX8_remove_31 : decode cX8_remove 31 = .ok (.iadd, 1) := by decide +kernel
theorem dX8_remove_32 : decode cX8_remove 32 = .ok (.invokevirtual 52, 3) := by decide +kernel
theorem dX8_remove_35 : decode cX8_remove 35 = .ok (.invokevirtual 55, 3) := by decide +kernel
theorem dX8_remove_38 : decode cX8_remove 38 = .ok (.iinc 2 1, 3) := by decide +kernel
theorem dX8_remove_41 : decode cX8_remove 41 = .ok (.goto (-39), 3) := by decide +kernel
theorem dX8_remove_44 : decode cX8_remove 44 = .ok (.aload_n 0, 1) := by decide +kernel
theorem dX8_remove_45 : decode cX8_remove 45 = .ok (.dup, 1) := by decide +kernel
theorem dX8_remove_46 : decode cX8_remove 46 = .ok (.getfield 42, 3) := by decide +kernel
theorem dX8_remove_49 : decode cX8_remove 49 = .ok (.iconst 1, 1) := by decide +kernel
theorem dX8_remove_50 : decode cX8_remove 50 = .ok (.isub, 1) := by decide +kernel
theorem dX8_remove_51 : decode cX8_remove 51 = .ok (.putfield 42, 3) := by decide +kernel
theorem dX8_remove_54 : decode cX8_remove 54 = .ok (.return_, 1) := by decide +kernel
abbrev rmX8_remove : Room := { frames := 2, cells := 0, slots := 0, locals := 80 }
abbrev sX8_remove (E : EV) : List AV → AH → (Option AV → AH → Prop) → Prop := Spec E yX8_remove cX8_remove 3 none rmX8_remove
theorem mX8_remove : Mt yX8_remove cX8_remove 3 none 1 := ⟨k855, k10, by decide +kernel⟩
theorem vX8_remove : MtV yX8_remove 8 := ⟨k853, k854, by decide, (RX8, TX8, 9), rfl, rfl⟩
def PX8_remove_2 (E : EV) (post : Option AV → AH → Prop) (J2 : AH → Option Nat → Int32 → Prop) (h : AH) (l0 : Option Nat) (l2 : Int32) : Prop :=
  rdI h l0 8 5 fun x1 => ((x1 - (1 : Int32)) ≤ l2 → rdI h l0 8 5 fun x2 => wr h l0 8 5 (aI (x2 - (1 : Int32))) fun h3 => post none h3) ∧ (¬ (x1 - (1 : Int32)) ≤ l2 → CV (sX8_shape E) l0 8 [aI (l2 + (1 : Int32))] h (kP fun x2 h3 => CV (sX8_x E) l0 8 [aI (l2 + (1 : Int32))] h3 (kI fun x4 h5 => CV (sX8_y E) l0 8 [aI (l2 + (1 : Int32))] h5 (kI fun x6 h7 => CV (sX8_setItem E) l0 8 [aI l2, aP x2, aI x4, aI x6] h7 (kV fun h9 => J2 h9 l0 (l2 + (1 : Int32)))))))
theorem bX8_remove_2 {E : EV} {X : AX} {post : Option AV → AH → Prop} (C : Cb E X cX8_remove RX8 3 rmX8_remove) (D : Cr E X none rmX8_remove "remove" post) {J2 : AH → Option Nat → Int32 → Prop} (g2 : ∀ (h : AH) (l0 : Option Nat) (l2 : Int32), J2 h l0 l2 → Go E X 3 0 0 2 [(0, aP l0), (2, aI l2)] [] h) {h : AH} {l0 : Option Nat} {l2 : Int32} (w : PX8_remove_2 E post J2 h l0 l2) : Go E X 3 0 0 2 [(0, aP l0), (2, aI l2)] [] h := by
  unfold PX8_remove_2 at w
  refine r_iload_n C dX8_remove_2 rfl 1 rfl ?_
  refine r_aload_n C dX8_remove_3 rfl 0 rfl ?_
  refine r_getI C fcX8 (f := 5) (by decide) rfl k259 dX8_remove_4 (w.mono fun x1 w => ?_)
  refine r_iconst (v := 1) C dX8_remove_7 rfl ?_
  refine r_isub C dX8_remove_8 ?_
  refine r_icmp_ge C dX8_remove_9 (tgt := 44) rfl (fun hc => ?_) (fun hc => ?_)
  · have w := w.1 hc
    refine r_aload_n C dX8_remove_44 rfl 0 rfl ?_
    refine r_dup C dX8_remove_45 rfl ?_
    refine r_getI C fcX8 (f := 5) (by decide) rfl k259 dX8_remove_46 (w.mono fun x2 w => ?_)
    refine r_iconst (v := 1) C dX8_remove_49 rfl ?_
    refine r_isub C dX8_remove_50 ?_
    refine r_put C fcX8 (f := 5) (by decide) rfl rfl rfl rfl k259 dX8_remove_51 (w.mono fun h3 w => ?_)
    exact r_vret C D rfl (Nat.zero_le _) (Nat.zero_le _) dX8_remove_54 w
  · have w := w.2 hc
    refine r_aload_n C dX8_remove_12 rfl 0 rfl ?_
    refine r_iload_n C dX8_remove_13 rfl 1 rfl ?_
    refine r_aload_n C dX8_remove_14 rfl 0 rfl ?_
    refine r_iload_n C dX8_remove_15 rfl 1 rfl ?_
    refine r_iconst (v := 1) C dX8_remove_16 rfl ?_
    refine r_iadd C dX8_remove_17 ?_
    refine r_cvP (rm' := rmX8_shape) C mX8_shape vX8_shape k509 [aI (l2 + (1 : Int32))] [aI l2, aP l0] rfl rfl (Nat.le_of_ble_eq_true rfl) (by decide) ⟨Nat.zero_le _, Nat.zero_le _⟩ 0 0 rfl rfl dX8_remove_18 w (fun x2 h3 w => ?_)
    refine r_aload_n C dX8_remove_21 rfl 0 rfl ?_
    refine r_iload_n C dX8_remove_22 rfl 1 rfl ?_
    refine r_iconst (v := 1) C dX8_remove_23 rfl ?_
    refine r_iadd C dX8_remove_24 ?_
    refine r_cvI (rm' := rmX8_x) C mX8_x vX8_x k513 [aI (l2 + (1 : Int32))] [aP x2, aI l2, aP l0] rfl rfl (Nat.le_of_ble_eq_true rfl) (by decide) ⟨Nat.zero_le _, Nat.zero_le _⟩ 0 0 rfl rfl dX8_remove_25 w (fun x4 h5 w => ?_)
    refine r_aload_n C dX8_remove_28 rfl 0 rfl ?_
    refine r_iload_n C dX8_remove_29 rfl 1 rfl ?_
    refine r_iconst (v := 1) C dX8_remove_30 rfl ?_
    refine r_iadd C dX8_remove_31 ?_
    refine r_cvI (rm' := rmX8_y) C mX8_y vX8_y k517 [aI (l2 + (1 : Int32))] [aI x4, aP x2, aI l2, aP l0] rfl rfl (Nat.le_of_ble_eq_true rfl) (by decide) ⟨Nat.zero_le _, Nat.zero_le _⟩ 0 0 rfl rfl dX8_remove_32 w (fun x6 h7 w => ?_)
    refine r_cvV (rm' := rmX8_setItem) C mX8_setItem vX8_setItem k521 [aI l2, aP x2, aI x4, aI x6] [] rfl rfl (Nat.le_of_ble_eq_true rfl) (by decide) ⟨Nat.zero_le _, Nat.zero_le _⟩ 0 0 rfl rfl dX8_remove_35 w (fun h9 w => ?_)
    refine r_iinc C dX8_remove_38 1 rfl (v := 1) rfl (by decide) rfl ?_
    refine r_goto C dX8_remove_41 (tgt := 2) rfl ?_
    exact r_sub [1, 0] rfl (g2 h9 l0 (l2 + (1 : Int32)) w)
theorem lpX8_remove_2 {E : EV} {X : AX} {post : Option AV → AH → Prop} (C : Cb E X cX8_remove RX8 3 rmX8_remove) (D : Cr E X none rmX8_remove "remove" post) (I : Nat → AH → Option Nat → Int32 → Prop) (step : ∀ (z : Nat) (h : AH) (l0 : Option Nat) (l2 : Int32), I z h l0 l2 → PX8_remove_2 E post (fun h l0 l2 => ∃ z', z' < z ∧ I z' h l0 l2) h l0 l2) : ∀ (z : Nat) (h : AH) (l0 : Option Nat) (l2 : Int32), I z h l0 l2 → Go E X 3 0 0 2 [(0, aP l0), (2, aI l2)] [] h := by
  intro z
  induction z using Nat.strongRecOn with
  | _ z ih =>
    intro h l0 l2 hI
    exact bX8_remove_2 C D (fun h l0 l2 hJ => by obtain ⟨z', hz, hi⟩ := hJ; exact ih z' hz h l0 l2 hi) (step z h l0 l2 hI)
def PX8_remove_0 (E : EV) (post : Option AV → AH → Prop) (J2 : AH → Option Nat → Int32 → Prop) (h : AH) (l0 : Option Nat) (l1 : Int32) : Prop :=
  J2 h l0 l1
theorem bX8_remove_0 {E : EV} {X : AX} {post : Option AV → AH → Prop} (C : Cb E X cX8_remove RX8 3 rmX8_remove) (D : Cr E X none rmX8_remove "remove" post) {J2 : AH → Option Nat → Int32 → Prop} (g2 : ∀ (h : AH) (l0 : Option Nat) (l2 : Int32), J2 h l0 l2 → Go E X 3 0 0 2 [(0, aP l0), (2, aI l2)] [] h) {h : AH} {l0 : Option Nat} {l1 : Int32} (w : PX8_remove_0 E post J2 h l0 l1) : Go E X 3 0 0 0 [(0, aP l0), (1, aI l1)] [] h := by
  unfold PX8_remove_0 at w
  refine r_iload_n C dX8_remove_0 rfl 1 rfl ?_
  refine r_istore_n C dX8_remove_1 rfl (by decide) rfl ?_
  exact r_sub [1, 0] rfl (g2 h l0 l1 w)
theorem eX8_remove {E : EV} {post : Option AV → AH → Prop} {h : AH} {l0 : Option Nat} {l1 : Int32} {J2 : AH → Option Nat → Int32 → Prop} (g2 : ∀ X : AX, Cb E X cX8_remove RX8 3 rmX8_remove → Cr E X none rmX8_remove "remove" post → ∀ (h : AH) (l0 : Option Nat) (l2 : Int32), J2 h l0 l2 → Go E X 3 0 0 2 [(0, aP l0), (2, aI l2)] [] h) (w : PX8_remove_0 E post J2 h l0 l1) : sX8_remove E [aP l0, aI l1] h post := Spec.of RX8 rfl rfl (Nat.le_of_ble_eq_true rfl) fun X C D => bX8_remove_0 C D (g2 X C D) w
theorem dX8_setSlot_0 : decode cX8_setSlot 0 = .ok (.iload_n 1, 1) := by decide +kernel
theorem dX8_setSlot_1 : decode cX8_setSlot 1 = .ok (.ifCond .lt 19, 3) := by decide +kernel
theorem dX8_setSlot_4 : decode cX8_setSlot 4 = .ok (.iload_n 1, 1) := by decide +kernel
theorem dX8_setSlot_5 : decode cX8_setSlot 5 = .ok (.aload_n 0, 1) := by decide +kernel
theorem dX8_setSlot_6 : decode cX8_setSlot 6 = .ok (.getfield 11, 3) := by decide +kernel
theorem dX8_setSlot_9 : decode cX8_setSlot 9 = .ok (.arraylength, 1) := by decide +kernel
theorem dX8_setSlot_10 : decode cX8_setSlot 10 = .ok (.if_icmp .ge 10, 3) := by decide +kernel
theorem dX8_setSlot_13 : decode cX8_setSlot 13 = .ok (.aload_n 0, 1) := by decide +kernel
theorem dX8_setSlot_14 : decode cX8_setSlot 14 = .ok (.getfield 11, 3) := by decide +kernel
theorem dX8_setSlot_17 : decode cX8_setSlot 17 = .ok (.iload_n 1, 1) := by decide +kernel
theorem dX8_setSlot_18 : decode cX8_setSlot 18 = .ok (.aload_n 2, 1) := by decide +kernel
theorem dX8_setSlot_19 : decode cX8_setSlot 19 = .ok (.aastore, 1) := by decide +kernel
theorem dX8_setSlot_20 : decode cX8_setSlot 20 = .ok (.return_, 1) := by decide +kernel
abbrev rmX8_setSlot : Room := { frames := 0, cells := 0, slots := 0, locals := 0 }
abbrev sX8_setSlot (E : EV) : List AV → AH → (Option AV → AH → Prop) → Prop := Spec E yX8_setSlot cX8_setSlot 3 none rmX8_setSlot
theorem mX8_setSlot : Mt yX8_setSlot cX8_setSlot 3 none 2 := ⟨k532, k10, by decide +kernel⟩
theorem vX8_setSlot : MtV yX8_setSlot 8 := ⟨k530, k531, by decide, (RX8, TX8, 9), rfl, rfl⟩
def PX8_setSlot_0 (E : EV) (post : Option AV → AH → Prop) (h : AH) (l0 : Option Nat) (l1 : Int32) (l2 : Option Nat) : Prop :=
  (l1 < 0 → post none h) ∧ (¬ l1 < 0 → rdP h l0 8 1 fun x1 => alenP h x1 13 fun x2 => (x2 ≤ l1 → post none h) ∧ (¬ x2 ≤ l1 → rdP h l0 8 1 fun x3 => astP h x3 13 6 l1 l2 fun h4 => post none h4))
theorem bX8_setSlot_0 {E : EV} {X : AX} {post : Option AV → AH → Prop} (C : Cb E X cX8_setSlot RX8 3 rmX8_setSlot) (D : Cr E X none rmX8_setSlot "setSlot" post) {h : AH} {l0 : Option Nat} {l1 : Int32} {l2 : Option Nat} (w : PX8_setSlot_0 E post h l0 l1 l2) : Go E X 3 0 0 0 [(0, aP l0), (1, aI l1), (2, aP l2)] [] h := by
  unfold PX8_setSlot_0 at w
  refine r_iload_n C dX8_setSlot_0 rfl 1 rfl ?_
  refine r_if_lt C dX8_setSlot_1 (tgt := 20) rfl (fun hc => ?_) (fun hc => ?_)
  · have w := w.1 hc
    exact r_vret C D rfl (Nat.zero_le _) (Nat.zero_le _) dX8_setSlot_20 w
  · have w := w.2 hc
    refine r_iload_n C dX8_setSlot_4 rfl 1 rfl ?_
    refine r_aload_n C dX8_setSlot_5 rfl 0 rfl ?_
    refine r_getP C fcX8 (f := 1) (by decide) rfl k255 dX8_setSlot_6 (w.mono fun x1 w => ?_)
    refine r_alenP 13 (by decide) 3 rfl C dX8_setSlot_9 (w.mono fun x2 w => ?_)
    refine r_icmp_ge C dX8_setSlot_10 (tgt := 20) rfl (fun hc => ?_) (fun hc => ?_)
    · have w := w.1 hc
      exact r_vret C D rfl (Nat.zero_le _) (Nat.zero_le _) dX8_setSlot_20 w
    · have w := w.2 hc
      refine r_aload_n C dX8_setSlot_13 rfl 0 rfl ?_
      refine r_getP C fcX8 (f := 1) (by decide) rfl k255 dX8_setSlot_14 (w.mono fun x3 w => ?_)
      refine r_iload_n C dX8_setSlot_17 rfl 1 rfl ?_
      refine r_aload_n C dX8_setSlot_18 rfl 2 rfl ?_
      refine r_aast 13 6 (by decide) (by decide) 3 (r := (RX6, TX6, 9)) rfl rfl C dX8_setSlot_19 (w.mono fun h4 w => ?_)
      exact r_vret C D rfl (Nat.zero_le _) (Nat.zero_le _) dX8_setSlot_20 w
theorem eX8_setSlot {E : EV} {post : Option AV → AH → Prop} {h : AH} {l0 : Option Nat} {l1 : Int32} {l2 : Option Nat} (w : PX8_setSlot_0 E post h l0 l1 l2) : sX8_setSlot E [aP l0, aI l1, aP l2] h post := Spec.of RX8 rfl rfl (Nat.le_of_ble_eq_true rfl) fun X C D => bX8_setSlot_0 C D w
theorem dX9_append_0 : decode cX9_append 0 = .ok (.aload_n 0, 1) := by decide +kernel
theorem dX9_append_1 : decode cX9_append 1 = .ok (.getfield 15, 3) := by decide +kernel
theorem dX9_append_4 : decode cX9_append 4 = .ok (.ifCond .lt 35, 3) := by decide +kernel
theorem dX9_append_7 : decode cX9_append 7 = .ok (.aload_n 0, 1) := by decide +kernel
theorem dX9_append_8 : decode cX9_append 8 = .ok (.getfield 15, 3) := by decide +kernel
theorem dX9_append_11 : decode cX9_append 11 = .ok (.aload_n 0, 1) := by decide +kernel
theorem dX9_append_12 : decode cX9_append 12 = .ok (.getfield 9, 3) := by decide +kernel
theorem dX9_append_15 : decode cX9_append 15 = .ok (.arraylength, 1) := by decide +kernel
theorem dX9_append_16 : decode cX9_append 16 = .ok (.if_icmp .ge 23, 3) := by decide +kernel
theorem dX9_append_19 : decode cX9_append 19 = .ok (.aload_n 0, 1) := by decide +kernel
theorem dX9_append_20 : decode cX9_append 20 = .ok (.getfield 9, 3) := by decide +kernel
theorem dX9_append_23 : decode cX9_append 23 = .ok (.aload_n 0, 1) := by decide +kernel
theorem dX9_append_24 : decode cX9_append 24 = .ok (.getfield 15, 3) := by decide +kernel
theorem dX9_append_27 : decode cX9_append 27 = .ok (.iload_n 1, 1) := by decide +kernel
theorem dX9_append_28 : decode cX9_append 28 = .ok (.iastore, 1) := by decide +kernel
theorem dX9_append_29 : decode cX9_append 29 = .ok (.aload_n 0, 1) := by decide +kernel
theorem dX9_append_30 : decode cX9_append 30 = .ok (.dup, 1) := by decide +kernel
theorem dX9_append_31 : decode cX9_append 31 = .ok (.getfield 15, 3) := by decide +kernel
theorem dX9_append_34 : decode cX9_append 34 = .ok (.iconst 1, 1) := by decide +kernel
theorem dX9_append_35 : decode cX9_append 35 = .ok (.iadd, 1) := by decide +kernel
theorem dX9_append_36 : decode cX9_append 36 = .ok (.putfield 15, 3) := by decide +kernel
theorem dX9_append_39 : decode cX9_append 39 = .ok (.return_, 1) := by decide +kernel
abbrev rmX9_append : Room := { frames := 0, cells := 0, slots := 0, locals := 0 }
abbrev sX9_append (E : EV) : List AV → AH → (Option AV → AH → Prop) → Prop := Spec E yX9_append cX9_append 2 none rmX9_append
theorem mX9_append : Mt yX9_append cX9_append 2 none 1 := ⟨k357, k3, by decide +kernel⟩
theorem vX9_append : MtV yX9_append 9 := ⟨k355, k356, by decide, (RX9, TX9, 4), rfl, rfl⟩
def PX9_append_0 (E : EV) (post : Option AV → AH → Prop) (h : AH) (l0 : Option Nat) (l1 : Int32) : Prop :=
  rdI h l0 9 1 fun x1 => (x1 < 0 → post none h) ∧ (¬ x1 < 0 → rdI h l0 9 1 fun x2 => rdP h l0 9 0 fun x3 => alenI h x3 0 fun x4 => (x4 ≤ x2 → post none h) ∧ (¬ x4 ≤ x2 → rdP h l0 9 0 fun x5 => rdI h l0 9 1 fun x6 => astI h x5 0 x6 l1 fun h7 => rdI h7 l0 9 1 fun x8 => wr h7 l0 9 1 (aI (x8 + (1 : Int32))) fun h9 => post none h9))
theorem bX9_append_0 {E : EV} {X : AX} {post : Option AV → AH → Prop} (C : Cb E X cX9_append RX9 2 rmX9_append) (D : Cr E X none rmX9_append "append" post) {h : AH} {l0 : Option Nat} {l1 : Int32} (w : PX9_append_0 E post h l0 l1) : Go E X 2 0 0 0 [(0, aP l0), (1, aI l1)] [] h := by
  unfold PX9_append_0 at w
  refine r_aload_n C dX9_append_0 rfl 0 rfl ?_
  refine r_getI C fcX9 (f := 1) (by decide) rfl k75 dX9_append_1 (w.mono fun x1 w => ?_)
  refine r_if_lt C dX9_append_4 (tgt := 39) rfl (fun hc => ?_) (fun hc => ?_)
  · have w := w.1 hc
    exact r_vret C D rfl (Nat.zero_le _) (Nat.zero_le _) dX9_append_39 w
  · have w := w.2 hc
    refine r_aload_n C dX9_append_7 rfl 0 rfl ?_
    refine r_getI C fcX9 (f := 1) (by decide) rfl k75 dX9_append_8 (w.mono fun x2 w => ?_)
    refine r_aload_n C dX9_append_11 rfl 0 rfl ?_
    refine r_getP C fcX9 (f := 0) (by decide) rfl k74 dX9_append_12 (w.mono fun x3 w => ?_)
    refine r_alenI 0 0 rfl C dX9_append_15 (w.mono fun x4 w => ?_)
    refine r_icmp_ge C dX9_append_16 (tgt := 39) rfl (fun hc => ?_) (fun hc => ?_)
    · have w := w.1 hc
      exact r_vret C D rfl (Nat.zero_le _) (Nat.zero_le _) dX9_append_39 w
    · have w := w.2 hc
      refine r_aload_n C dX9_append_19 rfl 0 rfl ?_
      refine r_getP C fcX9 (f := 0) (by decide) rfl k74 dX9_append_20 (w.mono fun x5 w => ?_)
      refine r_aload_n C dX9_append_23 rfl 0 rfl ?_
      refine r_getI C fcX9 (f := 1) (by decide) rfl k75 dX9_append_24 (w.mono fun x6 w => ?_)
      refine r_iload_n C dX9_append_27 rfl 1 rfl ?_
      refine r_iast C dX9_append_28 (w.mono fun h7 w => ?_)
      refine r_aload_n C dX9_append_29 rfl 0 rfl ?_
      refine r_dup C dX9_append_30 rfl ?_
      refine r_getI C fcX9 (f := 1) (by decide) rfl k75 dX9_append_31 (w.mono fun x8 w => ?_)
      refine r_iconst (v := 1) C dX9_append_34 rfl ?_
      refine r_iadd C dX9_append_35 ?_
      refine r_put C fcX9 (f := 1) (by decide) rfl rfl rfl rfl k75 dX9_append_36 (w.mono fun h9 w => ?_)
      exact r_vret C D rfl (Nat.zero_le _) (Nat.zero_le _) dX9_append_39 w
theorem eX9_append {E : EV} {post : Option AV → AH → Prop} {h : AH} {l0 : Option Nat} {l1 : Int32} (w : PX9_append_0 E post h l0 l1) : sX9_append E [aP l0, aI l1] h post := Spec.of RX9 rfl rfl (Nat.le_of_ble_eq_true rfl) fun X C D => bX9_append_0 C D w
theorem dX9_init_0 : decode cX9_init 0 = .ok (.aload_n 0, 1) := by decide +kernel
theorem dX9_init_1 : decode cX9_init 1 = .ok (.invokespecial 3, 3) := by decide +kernel
theorem dX9_init_4 : decode cX9_init 4 = .ok (.aload_n 0, 1) := by decide +kernel
theorem dX9_init_5 : decode cX9_init 5 = .ok (.sipush 150, 3) := by decide +kernel
theorem dX9_init_8 : decode cX9_init 8 = .ok (.newarray .int, 2) := by decide +kernel
theorem dX9_init_10 : decode cX9_init 10 = .ok (.putfield 9, 3) := by decide +kernel
theorem dX9_init_13 : decode cX9_init 13 = .ok (.return_, 1) := by decide +kernel
abbrev rmX9_init : Room := { frames := 1, cells := 1, slots := 150, locals := 40 }
abbrev sX9_init (E : EV) : List AV → AH → (Option AV → AH → Prop) → Prop := Spec E yX9_init cX9_init 1 none rmX9_init
theorem mX9_init : Mt yX9_init cX9_init 1 none 0 := ⟨k72, k3, by decide +kernel⟩
theorem vX9_init : MtI yX9_init := ⟨rfl, k71⟩
def PX9_init_0 (E : EV) (post : Option AV → AH → Prop) (k n : Nat) (h : AH) (l0 : Nat) : Prop :=
  (k + 1 ≤ 1 ∧ n + 150 ≤ 150) ∧ (∀ h1, h1 = h ++ [.inl (0, List.replicate 150 0)] → wr h1 (some l0) 9 0 (aP (some h.length)) fun h2 => ((k + 1) ≤ 1 ∧ (n + 150) ≤ 150) ∧ post none h2)
theorem bX9_init_0 {E : EV} {X : AX} {post : Option AV → AH → Prop} (C : Cb E X cX9_init RX9 1 rmX9_init) (D : Cr E X none rmX9_init "<init>" post) {k n : Nat} {h : AH} {l0 : Nat} (w : PX9_init_0 E post k n h l0) : Go E X 1 k n 0 [(0, aP (some l0))] [] h := by
  unfold PX9_init_0 at w
  refine r_aload_n C dX9_init_0 rfl 0 rfl ?_
  refine r_objInit C k73 k20 k21 (by decide) (by decide) (Nat.le_of_ble_eq_true rfl) dX9_init_1 ?_
  refine r_aload_n C dX9_init_4 rfl 0 rfl ?_
  refine r_sipush (v := 150) C dX9_init_5 rfl ?_
  refine r_newaI 0 .int rfl 0 rfl ra_int rfl (N' := 150) C k67 (by decide) rfl (by decide) w.1.1 w.1.2 dX9_init_8 ?_
  have w := w.2 _ rfl
  generalize h ++ [.inl (0, List.replicate 150 0)] = h1 at w ⊢
  refine r_putF C D fcX9 (f := 0) (by decide) rfl rfl rfl rfl (ft_A _ _) k74 dX9_init_10 (w.mono fun h2 w => ?_)
  exact r_vret C D rfl w.1.1 w.1.2 dX9_init_13 w.2
theorem eX9_init {E : EV} {post : Option AV → AH → Prop} {h : AH} {l0 : Nat} (w : PX9_init_0 E post 0 0 h l0) : sX9_init E [aP (some l0)] h post := Spec.of RX9 rfl rfl (Nat.le_of_ble_eq_true rfl) fun X C D => bX9_init_0 C D w
theorem dX10_addItem_0 : decode cX10_addItem 0 = .ok (.aload_n 0, 1) := by decide +kernel
theorem dX10_addItem_1 : decode cX10_addItem 1 = .ok (.getfield 62, 3) := by decide +kernel
theorem dX10_addItem_4 : decode cX10_addItem 4 = .ok (.aload_n 0, 1) := by decide +kernel
theorem dX10_addItem_5 : decode cX10_addItem 5 = .ok (.getfield 52, 3) := by decide +kernel
theorem dX10_addItem_8 : decode cX10_addItem 8 = .ok (.invokevirtual 125, 3) := by decide +kernel
theorem dX10_addItem_11 : decode cX10_addItem 11 = .ok (.aload_n 0, 1) := by decide +kernel
theorem dX10_addItem_12 : decode cX10_addItem 12 = .ok (.getfield 52, 3) := by decide +kernel
theorem dX10_addItem_15 : decode cX10_addItem 15 = .ok (.aload_n 1, 1) := by decide +kernel
theorem dX10_addItem_16 : decode cX10_addItem 16 = .ok (.iload_n 2, 1) := by decide +kernel
theorem dX10_addItem_17 : decode cX10_addItem 17 = .ok (.iload_n 3, 1) := by decide +kernel
theorem dX10_addItem_18 : decode cX10_addItem 18 = .ok (.invokevirtual 254, 3) := by decide +kernel
theorem dX10_addItem_21 : decode cX10_addItem 21 = .ok (.aload_n 0, 1) := by decide +kernel
theorem dX10_addItem_22 : decode cX10_addItem 22 = .ok (.getfield 52, 3) := by decide +kernel
theorem dX10_addItem_25 : decode cX10_addItem 25 = .ok (.getfield 218, 3) := by decide +kernel
theorem dX10_addItem_28 : decode cX10_addItem 28 = .ok (.iconst 1, 1) := by decide +kernel
theorem dX10_addItem_29 : decode cX10_addItem 29 = .ok (.isub, 1) := by decide +kernel
theorem dX10_addItem_30 : decode cX10_addItem 30 = .ok (.ireturn, 1) := by decide +kernel
abbrev rmX10_addItem : Room := { frames := 4, cells := 0, slots := 0, locals := 160 }
abbrev sX10_addItem (E : EV) : List AV → AH → (Option AV → AH → Prop) → Prop := Spec E yX10_addItem cX10_addItem 4 (some .int) rmX10_addItem
theorem mX10_addItem : Mt yX10_addItem cX10_addItem 4 (some .int) 3 := ⟨k765, k1, by decide +kernel⟩
theorem vX10_addItem : MtV yX10_addItem 10 := ⟨k764, kp15, by decide, (RX10, TX10, 12), rfl, rfl⟩
def PX10_addItem_0 (E : EV) (post : Option AV → AH → Prop) (h : AH) (l0 : Option Nat) (l1 : Option Nat) (l2 : Int32) (l3 : Int32) : Prop :=
  rdP h l0 10 7 fun x1 => rdP h l0 10 5 fun x2 => CV (sX1_save E) x1 1 [aP x2] h (kV fun h4 => rdP h4 l0 10 5 fun x5 => CV (sX8_add E) x5 8 [aP l1, aI l2, aI l3] h4 (kV fun h7 => rdP h7 l0 10 5 fun x8 => rdI h7 x8 8 5 fun x9 => post (some (aI (x9 - (1 : Int32)))) h7))
theorem bX10_addItem_0 {E : EV} {X : AX} {post : Option AV → AH → Prop} (C : Cb E X cX10_addItem RX10 4 rmX10_addItem) (D : Cr E X (some .int) rmX10_addItem "addItem" post) {h : AH} {l0 : Option Nat} {l1 : Option Nat} {l2 : Int32} {l3 : Int32} (w : PX10_addItem_0 E post h l0 l1 l2 l3) : Go E X 4 0 0 0 [(0, aP l0), (1, aP l1), (2, aI l2), (3, aI l3)] [] h := by
  unfold PX10_addItem_0 at w
  refine r_aload_n C dX10_addItem_0 rfl 0 rfl ?_
  refine r_getP C fcX10 (f := 7) (by decide) rfl k318 dX10_addItem_1 (w.mono fun x1 w => ?_)
  refine r_aload_n C dX10_addItem_4 rfl 0 rfl ?_
  refine r_getP C fcX10 (f := 5) (by decide) rfl k316 dX10_addItem_5 (w.mono fun x2 w => ?_)
  refine r_cvV (rm' := rmX1_save) C mX1_save vX1_save k489 [aP x2] [] rfl rfl (Nat.le_of_ble_eq_true rfl) (by decide) ⟨Nat.zero_le _, Nat.zero_le _⟩ 0 0 rfl rfl dX10_addItem_8 w (fun h4 w => ?_)
  refine r_aload_n C dX10_addItem_11 rfl 0 rfl ?_
  refine r_getP C fcX10 (f := 5) (by decide) rfl k316 dX10_addItem_12 (w.mono fun x5 w => ?_)
  refine r_aload_n C dX10_addItem_15 rfl 1 rfl ?_
  refine r_iload_n C dX10_addItem_16 rfl 2 rfl ?_
  refine r_iload_n C dX10_addItem_17 rfl 3 rfl ?_
  refine r_cvV (rm' := rmX8_add) C mX8_add vX8_add k766 [aP l1, aI l2, aI l3] [] rfl rfl (Nat.le_of_ble_eq_true rfl) (by decide) ⟨Nat.zero_le _, Nat.zero_le _⟩ 0 0 rfl rfl dX10_addItem_18 w (fun h7 w => ?_)
  refine r_aload_n C dX10_addItem_21 rfl 0 rfl ?_
  refine r_getP C fcX10 (f := 5) (by decide) rfl k316 dX10_addItem_22 (w.mono fun x8 w => ?_)
  refine r_getI C fcX8 (f := 5) (by decide) rfl k261 dX10_addItem_25 (w.mono fun x9 w => ?_)
  refine r_iconst (v := 1) C dX10_addItem_28 rfl ?_
  refine r_isub C dX10_addItem_29 ?_
  exact r_iret C D rfl (Nat.zero_le _) (Nat.zero_le _) dX10_addItem_30 w
theorem eX10_addItem {E : EV} {post : Option AV → AH → Prop} {h : AH} {l0 : Option Nat} {l1 : Option Nat} {l2 : Int32} {l3 : Int32} (w : PX10_addItem_0 E post h l0 l1 l2 l3) : sX10_addItem E [aP l0, aP l1, aI l2, aI l3] h post := Spec.of RX10 rfl rfl (Nat.le_of_ble_eq_true rfl) fun X C D => bX10_addItem_0 C D w
theorem dX10_addAtBottomLeft_0 : decode cX10_addAtBottomLeft 0 = .ok (.aload_n 0, 1) := by decide +kernel
theorem dX10_addAtBottomLeft_1 : decode cX10_addAtBottomLeft 1 = .ok (.getfield 43, 3) := by decide +kernel
theorem dX10_addAtBottomLeft_4 : decode cX10_addAtBottomLeft 4 = .ok (.aload_n 0, 1) := by decide +kernel
theorem dX10_addAtBottomLeft_5 : decode cX10_addAtBottomLeft 5 = .ok (.getfield 52, 3) := by decide +kernel
theorem dX10_addAtBottomLeft_8 : decode cX10_addAtBottomLeft 8 = .ok (.aload_n 1, 1) := by decide +kernel
theorem dX10_addAtBottomLeft_9 : decode cX10_addAtBottomLeft 9 = .ok (.iconst (-1), 1) := by decide +kernel
theorem dX10_addAtBottomLeft_10 : decode cX10_addAtBottomLeft 10 = .ok (.invokevirtual 263, 3) := by decide +kernel
theorem dX10_addAtBottomLeft_13 : decode cX10_addAtBottomLeft 13 = .ok (.aload_n 0, 1) := by decide +kernel
theorem dX10_addAtBottomLeft_14 : decode cX10_addAtBottomLeft 14 = .ok (.getfield 43, 3) := by decide +kernel
theorem dX10_addAtBottomLeft_17 : decode cX10_addAtBottomLeft 17 = .ok (.invokevirtual 338, 3) := by decide +kernel
theorem dX10_addAtBottomLeft_20 : decode cX10_addAtBottomLeft 20 = .ok (.ifCond .ne 6, 3) := by decide +kernel
theorem dX10_addAtBottomLeft_23 : decode cX10_addAtBottomLeft 23 = .ok (.ldc 160, 2) := by decide +kernel
theorem dX10_addAtBottomLeft_25 : decode cX10_addAtBottomLeft 25 = .ok (.ireturn, 1) := by decide +kernel
theorem dX10_addAtBottomLeft_26 : decode cX10_addAtBottomLeft 26 = .ok (.aload_n 0, 1) := by decide +kernel
theorem dX10_addAtBottomLeft_27 : decode cX10_addAtBottomLeft 27 = .ok (.aload_n 1, 1) := by decide +kernel
theorem dX10_addAtBottomLeft_28 : decode cX10_addAtBottomLeft 28 = .ok (.aload_n 0, 1) := by decide +kernel
theorem dX10_addAtBottomLeft_29 : decode cX10_addAtBottomLeft 29 = .ok (.getfield 43, 3) := by decide +kernel
theorem dX10_addAtBottomLeft_32 : decode cX10_addAtBottomLeft 32 = .ok (.getfield 341, 3) := by decide +kernel
theorem dX10_addAtBottomLeft_35 : decode cX10_addAtBottomLeft 35 = .ok (.aload_n 0, 1) := by decide +kernel
theorem dX10_addAtBottomLeft_36 : decode cX10_addAtBottomLeft 36 = .ok (.getfield 43, 3) := by decide +kernel
theorem dX10_addAtBottomLeft_39 : decode cX10_addAtBottomLeft 39 = .ok (.getfield 344, 3) := by decide +kernel
theorem dX10_addAtBottomLeft_42 : decode cX10_addAtBottomLeft 42 = .ok (.invokevirtual 231, 3) := by decide +kernel
theorem dX10_addAtBottomLeft_45 : decode cX10_addAtBottomLeft 45 = .ok (.ireturn, 1) := by decide +kernel
abbrev rmX10_addAtBottomLeft : Room := { frames := 5, cells := 0, slots := 0, locals := 200 }
abbrev sX10_addAtBottomLeft (E : EV) : List AV → AH → (Option AV → AH → Prop) → Prop := Spec E yX10_addAtBottomLeft cX10_addAtBottomLeft 2 (some .int) rmX10_addAtBottomLeft
theorem mX10_addAtBottomLeft : Mt yX10_addAtBottomLeft cX10_addAtBottomLeft 2 (some .int) 1 := ⟨k781, k1, by decide +kernel⟩
theorem vX10_addAtBottomLeft : MtV yX10_addAtBottomLeft 10 := ⟨k780, kp17, by decide, (RX10, TX10, 12), rfl, rfl⟩
def PX10_addAtBottomLeft_0 (E : EV) (post : Option AV → AH → Prop) (h : AH) (l0 : Option Nat) (l1 : Option Nat) : Prop :=
  rdP h l0 10 4 fun x1 => rdP h l0 10 5 fun x2 => CV (sX4_prepare E) x1 4 [aP x2, aP l1, aI (-1 : Int32)] h (kV fun h4 => rdP h4 l0 10 4 fun x5 => CV (sX4_findBottomLeft E) x5 4 [] h4 (kI fun x6 h7 => (¬ x6 = 0 → rdP h7 l0 10 4 fun x8 => rdI h7 x8 4 8 fun x9 => rdP h7 l0 10 4 fun x10 => rdI h7 x10 4 9 fun x11 => CV (sX10_addItem E) l0 10 [aP l1, aI x9, aI x11] h7 (kI fun x12 h13 => post (some (aI x12)) h13)) ∧ (x6 = 0 → post (some (aI (-1000009 : Int32))) h7)))
theorem bX10_addAtBottomLeft_0 {E : EV} {X : AX} {post : Option AV → AH → Prop} (C : Cb E X cX10_addAtBottomLeft RX10 2 rmX10_addAtBottomLeft) (D : Cr E X (some .int) rmX10_addAtBottomLeft "addAtBottomLeft" post) {h : AH} {l0 : Option Nat} {l1 : Option Nat} (w : PX10_addAtBottomLeft_0 E post h l0 l1) : Go E X 2 0 0 0 [(0, aP l0), (1, aP l1)] [] h := by
  unfold PX10_addAtBottomLeft_0 at w
  refine r_aload_n C dX10_addAtBottomLeft_0 rfl 0 rfl ?_
  refine r_getP C fcX10 (f := 4) (by decide) rfl k315 dX10_addAtBottomLeft_1 (w.mono fun x1 w => ?_)
  refine r_aload_n C dX10_addAtBottomLeft_4 rfl 0 rfl ?_
  refine r_getP C fcX10 (f := 5) (by decide) rfl k316 dX10_addAtBottomLeft_5 (w.mono fun x2 w => ?_)
  refine r_aload_n C dX10_addAtBottomLeft_8 rfl 1 rfl ?_
  refine r_iconst (v := -1) C dX10_addAtBottomLeft_9 rfl ?_
  refine r_cvV (rm' := rmX4_prepare) C mX4_prepare vX4_prepare k726 [aP x2, aP l1, aI (-1 : Int32)] [] rfl rfl (Nat.le_of_ble_eq_true rfl) (by decide) ⟨Nat.zero_le _, Nat.zero_le _⟩ 0 0 rfl rfl dX10_addAtBottomLeft_10 w (fun h4 w => ?_)
  refine r_aload_n C dX10_addAtBottomLeft_13 rfl 0 rfl ?_
  refine r_getP C fcX10 (f := 4) (by decide) rfl k315 dX10_addAtBottomLeft_14 (w.mono fun x5 w => ?_)
  refine r_cvI (rm' := rmX4_findBottomLeft) C mX4_findBottomLeft vX4_findBottomLeft k782 [] [] rfl rfl (Nat.le_of_ble_eq_true rfl) (by decide) ⟨Nat.zero_le _, Nat.zero_le _⟩ 0 0 rfl rfl dX10_addAtBottomLeft_17 w (fun x6 h7 w => ?_)
  refine r_if_ne C dX10_addAtBottomLeft_20 (tgt := 26) rfl (fun hc => ?_) (fun hc => ?_)
  · have w := w.1 hc
    refine r_aload_n C dX10_addAtBottomLeft_26 rfl 0 rfl ?_
    refine r_aload_n C dX10_addAtBottomLeft_27 rfl 1 rfl ?_
    refine r_aload_n C dX10_addAtBottomLeft_28 rfl 0 rfl ?_
    refine r_getP C fcX10 (f := 4) (by decide) rfl k315 dX10_addAtBottomLeft_29 (w.mono fun x8 w => ?_)
    refine r_getI C fcX4 (f := 8) (by decide) rfl k221 dX10_addAtBottomLeft_32 (w.mono fun x9 w => ?_)
    refine r_aload_n C dX10_addAtBottomLeft_35 rfl 0 rfl ?_
    refine r_getP C fcX10 (f := 4) (by decide) rfl k315 dX10_addAtBottomLeft_36 (w.mono fun x10 w => ?_)
    refine r_getI C fcX4 (f := 9) (by decide) rfl k223 dX10_addAtBottomLeft_39 (w.mono fun x11 w => ?_)
    refine r_cvI (rm' := rmX10_addItem) C mX10_addItem vX10_addItem k762 [aP l1, aI x9, aI x11] [] rfl rfl (Nat.le_of_ble_eq_true rfl) (by decide) ⟨Nat.zero_le _, Nat.zero_le _⟩ 0 0 rfl rfl dX10_addAtBottomLeft_42 w (fun x12 h13 w => ?_)
    exact r_iret C D rfl (Nat.zero_le _) (Nat.zero_le _) dX10_addAtBottomLeft_45 w
  · have w := w.2 hc
    refine r_ldc (v := -1000009) C dX10_addAtBottomLeft_23 k593 ?_
    exact r_iret C D rfl (Nat.zero_le _) (Nat.zero_le _) dX10_addAtBottomLeft_25 w
theorem eX10_addAtBottomLeft {E : EV} {post : Option AV → AH → Prop} {h : AH} {l0 : Option Nat} {l1 : Option Nat} (w : PX10_addAtBottomLeft_0 E post h l0 l1) : sX10_addAtBottomLeft E [aP l0, aP l1] h post := Spec.of RX10 rfl rfl (Nat.le_of_ble_eq_true rfl) fun X C D => bX10_addAtBottomLeft_0 C D w
theorem dX10_allItemsFit_0 : decode cX10_allItemsFit 0 = .ok (.iconst 0, 1) := by decide +kernel
theorem dX10_allItemsFit_1 : decode cX10_allItemsFit 1 = .ok (.istore_n 1, 1) := by decide +kernel
theorem dX10_allItemsFit_2 : decode cX10_allItemsFit 2 = .ok (.iload_n 1, 1) := by decide +kernel
theorem dX10_allItemsFit_3 : decode cX10_allItemsFit 3 = .ok (.aload_n 0, 1) := by decide +kernel
theorem dX10_allItemsFit_4 : decode cX10_allItemsFit 4 = .ok (.getfield 52, 3) := by decide +kernel
theorem dX10_allItemsFit_7 : decode cX10_allItemsFit 7 = .ok (.getfield 218, 3) := by decide +kernel
theorem dX10_allItemsFit_10 : decode cX10_allItemsFit 10 = .ok (.if_icmp .ge 57, 3) := by decide +kernel
theorem dX10_allItemsFit_13 : decode cX10_allItemsFit 13 = .ok (.aload_n 0, 1) := by decide +kernel
theorem dX10_allItemsFit_14 : decode cX10_allItemsFit 14 = .ok (.getfield 43, 3) := by decide +kernel
theorem dX10_allItemsFit_17 : decode cX10_allItemsFit 17 = .ok (.aload_n 0, 1) := by decide +kernel
theorem dX10_allItemsFit_18 : decode cX10_allItemsFit 18 = .ok (.getfield 52, 3) := by decide +kernel
theorem dX10_allItemsFit_21 : decode cX10_allItemsFit 21 = .ok (.aload_n 0, 1) := by decide +kernel
theorem dX10_allItemsFit_22 : decode cX10_allItemsFit 22 = .ok (.getfield 52, 3) := by decide +kernel
theorem dX10_allItemsFit_25 : decode cX10_allItemsFit 25 = .ok (.iload_n 1, 1) := by decide +kernel
theorem dX10_allItemsFit_26 : decode cX10_allItemsFit 26 = .ok (.invokevirtual 261, 3) := by decide +kernel
theorem dX10_allItemsFit_29 : decode cX10_allItemsFit 29 = .ok (.iload_n 1, 1) := by decide +kernel
theorem dX10_allItemsFit_30 : decode cX10_allItemsFit 30 = .ok (.invokevirtual 263, 3) := by decide +kernel
theorem dX10_allItemsFit_33 : decode cX10_allItemsFit 33 = .ok (.aload_n 0, 1) := by decide +kernel
theorem dX10_allItemsFit_34 : decode cX10_allItemsFit 34 = .ok (.getfield 43, 3) := by decide +kernel
theorem dX10_allItemsFit_37 : decode cX10_allItemsFit 37 = .ok (.aload_n 0, 1) := by decide +kernel
theorem dX10_allItemsFit_38 : decode cX10_allItemsFit 38 = .ok (.getfield 52, 3) := by decide +kernel
theorem dX10_allItemsFit_41 : decode cX10_allItemsFit 41 = .ok (.iload_n 1, 1) := by decide +kernel
theorem dX10_allItemsFit_42 : decode cX10_allItemsFit 42 = .ok (.invokevirtual 274, 3) := by decide +kernel
theorem dX10_allItemsFit_45 : decode cX10_allItemsFit 45 = .ok (.aload_n 0, 1) := by decide +kernel
theorem dX10_allItemsFit_46 : decode cX10_allItemsFit 46 = .ok (.getfield 52, 3) := by decide +kernel
theorem dX10_allItemsFit_49 : decode cX10_allItemsFit 49 = .ok (.iload_n 1, 1) := by decide +kernel
theorem dX10_allItemsFit_50 : decode cX10_allItemsFit 50 = .ok (.invokevirtual 275, 3) := by decide +kernel
theorem dX10_allItemsFit_53 : decode cX10_allItemsFit 53 = .ok (.invokevirtual 335, 3) := by decide +kernel
theorem dX10_allItemsFit_56 : decode cX10_allItemsFit 56 = .ok (.ifCond .ne 5, 3) := by decide +kernel
theorem dX10_allItemsFit_59 : decode cX10_allItemsFit 59 = .ok (.iconst 0, 1) := by decide +kernel
theorem dX10_allItemsFit_60 : decode cX10_allItemsFit 60 = .ok (.ireturn, 1) := by decide +kernel
theorem dX10_allItemsFit_61 : decode cX10_allItemsFit 61 = .ok (.iinc 1 1, 3) := by decide +kernel
theorem dX10_allItemsFit_64 : decode cX10_allItemsFit 64 = .ok (.goto (-62), 3) := by decide +kernel
theorem dX10_allItemsFit_67 : decode cX10_allItemsFit 67 = .ok (.iconst 1, 1) := by decide +kernel
theorem dX10_allItemsFit_68 : decode cX10_allItemsFit 68 = .ok (.ireturn, 1) := by decide +kernel
abbrev rmX10_allItemsFit : Room := { frames := 5, cells := 0, slots := 0, locals := 200 }
abbrev sX10_allItemsFit (E : EV) : List AV → AH → (Option AV → AH → Prop) → Prop := Spec E yX10_allItemsFit cX10_allItemsFit 2 (some .boolean) rmX10_allItemsFit
theorem mX10_allItemsFit : Mt yX10_allItemsFit cX10_allItemsFit 2 (some .boolean) 0 := ⟨k724, k1, by decide +kernel⟩
theorem vX10_allItemsFit : MtV yX10_allItemsFit 10 := ⟨k723, kp12, by decide, (RX10, TX10, 12), rfl, rfl⟩
def PX10_allItemsFit_2 (E : EV) (post : Option AV → AH → Prop) (J2 : AH → Option Nat → Int32 → Prop) (h : AH) (l0 : Option Nat) (l1 : Int32) : Prop :=
  rdP h l0 10 5 fun x1 => rdI h x1 8 5 fun x2 => (x2 ≤ l1 → post (some (aI (1 : Int32))) h) ∧ (¬ x2 ≤ l1 → rdP h l0 10 4 fun x3 => rdP h l0 10 5 fun x4 => rdP h l0 10 5 fun x5 => CV (sX8_shape E) x5 8 [aI l1] h (kP fun x6 h7 => CV (sX4_prepare E) x3 4 [aP x4, aP x6, aI l1] h7 (kV fun h9 => rdP h9 l0 10 4 fun x10 => rdP h9 l0 10 5 fun x11 => CV (sX8_x E) x11 8 [aI l1] h9 (kI fun x12 h13 => rdP h13 l0 10 5 fun x14 => CV (sX8_y E) x14 8 [aI l1] h13 (kI fun x15 h16 => CV (sX4_isFree E) x10 4 [aI x12, aI x15] h16 (kI fun x17 h18 => (¬ x17 = 0 → J2 h18 l0 (l1 + (1 : Int32))) ∧ (x17 = 0 → post (some (aI (0 : Int32))) h18)))))))
theorem bX10_allItemsFit_2 {E : EV} {X : AX} {post : Option AV → AH → Prop} (C : Cb E X cX10_allItemsFit RX10 2 rmX10_allItemsFit) (D : Cr E X (some .boolean) rmX10_allItemsFit "allItemsFit" post) {J2 : AH → Option Nat → Int32 → Prop} (g2 : ∀ (h : AH) (l0 : Option Nat) (l1 : Int32), J2 h l0 l1 → Go E X 2 0 0 2 [(0, aP l0), (1, aI l1)] [] h) {h : AH} {l0 : Option Nat} {l1 : Int32} (w : PX10_allItemsFit_2 E post J2 h l0 l1) : Go E X 2 0 0 2 [(0, aP l0), (1, aI l1)] [] h := by
  unfold PX10_allItemsFit_2 at w
  refine r_iload_n C dX10_allItemsFit_2 rfl 1 rfl ?_
  refine r_aload_n C dX10_allItemsFit_3 rfl 0 rfl ?_
  refine r_getP C fcX10 (f := 5) (by decide) rfl k316 dX10_allItemsFit_4 (w.mono fun x1 w => ?_)
  refine r_getI C fcX8 (f := 5) (by decide) rfl k261 dX10_allItemsFit_7 (w.mono fun x2 w => ?_)
  refine r_icmp_ge C dX10_allItemsFit_10 (tgt := 67) rfl (fun hc => ?_) (fun hc => ?_)
  · have w := w.1 hc
    refine r_iconst (v := 1) C dX10_allItemsFit_67 rfl ?_
    exact r_zret C D rfl (Or.inr rfl) (Nat.zero_le _) (Nat.zero_le _) dX10_allItemsFit_68 w
  · have w := w.2 hc
    refine r_aload_n C dX10_allItemsFit_13 rfl 0 rfl ?_
    refine r_getP C fcX10 (f := 4) (by decide) rfl k315 dX10_allItemsFit_14 (w.mono fun x3 w => ?_)
    refine r_aload_n C dX10_allItemsFit_17 rfl 0 rfl ?_
    refine r_getP C fcX10 (f := 5) (by decide) rfl k316 dX10_allItemsFit_18 (w.mono fun x4 w => ?_)
    refine r_aload_n C dX10_allItemsFit_21 rfl 0 rfl ?_
    refine r_getP C fcX10 (f := 5) (by decide) rfl k316 dX10_allItemsFit_22 (w.mono fun x5 w => ?_)
    refine r_iload_n C dX10_allItemsFit_25 rfl 1 rfl ?_
    refine r_cvP (rm' := rmX8_shape) C mX8_shape vX8_shape k725 [aI l1] [aP x4, aP x3] rfl rfl (Nat.le_of_ble_eq_true rfl) (by decide) ⟨Nat.zero_le _, Nat.zero_le _⟩ 0 0 rfl rfl dX10_allItemsFit_26 w (fun x6 h7 w => ?_)
    refine r_iload_n C dX10_allItemsFit_29 rfl 1 rfl ?_
    refine r_cvV (rm' := rmX4_prepare) C mX4_prepare vX4_prepare k726 [aP x4, aP x6, aI l1] [] rfl rfl (Nat.le_of_ble_eq_true rfl) (by decide) ⟨Nat.zero_le _, Nat.zero_le _⟩ 0 0 rfl rfl dX10_allItemsFit_30 w (fun h9 w => ?_)
    refine r_aload_n C dX10_allItemsFit_33 rfl 0 rfl ?_
    refine r_getP C fcX10 (f := 4) (by decide) rfl k315 dX10_allItemsFit_34 (w.mono fun x10 w => ?_)
    refine r_aload_n C dX10_allItemsFit_37 rfl 0 rfl ?_
    refine r_getP C fcX10 (f := 5) (by decide) rfl k316 dX10_allItemsFit_38 (w.mono fun x11 w => ?_)
    refine r_iload_n C dX10_allItemsFit_41 rfl 1 rfl ?_
    refine r_cvI (rm' := rmX8_x) C mX8_x vX8_x k743 [aI l1] [aP x10] rfl rfl (Nat.le_of_ble_eq_true rfl) (by decide) ⟨Nat.zero_le _, Nat.zero_le _⟩ 0 0 rfl rfl dX10_allItemsFit_42 w (fun x12 h13 w => ?_)
    refine r_aload_n C dX10_allItemsFit_45 rfl 0 rfl ?_
    refine r_getP C fcX10 (f := 5) (by decide) rfl k316 dX10_allItemsFit_46 (w.mono fun x14 w => ?_)
    refine r_iload_n C dX10_allItemsFit_49 rfl 1 rfl ?_
    refine r_cvI (rm' := rmX8_y) C mX8_y vX8_y k744 [aI l1] [aI x12, aP x10] rfl rfl (Nat.le_of_ble_eq_true rfl) (by decide) ⟨Nat.zero_le _, Nat.zero_le _⟩ 0 0 rfl rfl dX10_allItemsFit_50 w (fun x15 h16 w => ?_)
    refine r_cvI (rm' := rmX4_isFree) C mX4_isFree vX4_isFree k745 [aI x12, aI x15] [] rfl rfl (Nat.le_of_ble_eq_true rfl) (by decide) ⟨Nat.zero_le _, Nat.zero_le _⟩ 0 0 rfl rfl dX10_allItemsFit_53 w (fun x17 h18 w => ?_)
    refine r_if_ne C dX10_allItemsFit_56 (tgt := 61) rfl (fun hc => ?_) (fun hc => ?_)
    · have w := w.1 hc
      refine r_iinc C dX10_allItemsFit_61 1 rfl (v := 1) rfl (by decide) rfl ?_
      refine r_goto C dX10_allItemsFit_64 (tgt := 2) rfl ?_
      exact r_sub [1, 0] rfl (g2 h18 l0 (l1 + (1 : Int32)) w)
    · have w := w.2 hc
      refine r_iconst (v := 0) C dX10_allItemsFit_59 rfl ?_
      exact r_zret C D rfl (Or.inl rfl) (Nat.zero_le _) (Nat.zero_le _) dX10_allItemsFit_60 w
theorem lpX10_allItemsFit_2 {E : EV} {X : AX} {post : Option AV → AH → Prop} (C : Cb E X cX10_allItemsFit RX10 2 rmX10_allItemsFit) (D : Cr E X (some .boolean) rmX10_allItemsFit "allItemsFit" post) (I : Nat → AH → Option Nat → Int32 → Prop) (step : ∀ (z : Nat) (h : AH) (l0 : Option Nat) (l1 : Int32), I z h l0 l1 → PX10_allItemsFit_2 E post (fun h l0 l1 => ∃ z', z' < z ∧ I z' h l0 l1) h l0 l1) : ∀ (z : Nat) (h : AH) (l0 : Option Nat) (l1 : Int32), I z h l0 l1 → Go E X 2 0 0 2 [(0, aP l0), (1, aI l1)] [] h := by
  intro z
  induction z using Nat.strongRecOn with
  | _ z ih =>
    intro h l0 l1 hI
    exact bX10_allItemsFit_2 C D (fun h l0 l1 hJ => by obtain ⟨z', hz, hi⟩ := hJ; exact ih z' hz h l0 l1 hi) (step z h l0 l1 hI)
def PX10_allItemsFit_0 (E : EV) (post : Option AV → AH → Prop) (J2 : AH → Option Nat → Int32 → Prop) (h : AH) (l0 : Option Nat) : Prop :=
  J2 h l0 (0 : Int32)
theorem bX10_allItemsFit_0 {E : EV} {X : AX} {post : Option AV → AH → Prop} (C : Cb E X cX10_allItemsFit RX10 2 rmX10_allItemsFit) (D : Cr E X (some .boolean) rmX10_allItemsFit "allItemsFit" post) {J2 : AH → Option Nat → Int32 → Prop} (g2 : ∀ (h : AH) (l0 : Option Nat) (l1 : Int32), J2 h l0 l1 → Go E X 2 0 0 2 [(0, aP l0), (1, aI l1)] [] h) {h : AH} {l0 : Option Nat} (w : PX10_allItemsFit_0 E post J2 h l0) : Go E X 2 0 0 0 [(0, aP l0)] [] h := by
  unfold PX10_allItemsFit_0 at w
  refine r_iconst (v := 0) C dX10_allItemsFit_0 rfl ?_
  refine r_istore_n C dX10_allItemsFit_1 rfl (by decide) rfl ?_
  exact r_sub [1, 0] rfl (g2 h l0 (0 : Int32) w)
theorem eX10_allItemsFit {E : EV} {post : Option AV → AH → Prop} {h : AH} {l0 : Option Nat} {J2 : AH → Option Nat → Int32 → Prop} (g2 : ∀ X : AX, Cb E X cX10_allItemsFit RX10 2 rmX10_allItemsFit → Cr E X (some .boolean) rmX10_allItemsFit "allItemsFit" post → ∀ (h : AH) (l0 : Option Nat) (l1 : Int32), J2 h l0 l1 → Go E X 2 0 0 2 [(0, aP l0), (1, aI l1)] [] h) (w : PX10_allItemsFit_0 E post J2 h l0) : sX10_allItemsFit E [aP l0] h post := Spec.of RX10 rfl rfl (Nat.le_of_ble_eq_true rfl) fun X C D => bX10_allItemsFit_0 C D (g2 X C D) w
theorem dX10_appendCharacter_0 : decode cX10_appendCharacter 0 = .ok (.iload_n 1, 1) := by decide +kernel
theorem dX10_appendCharacter_1 : decode cX10_appendCharacter 1 = .ok (.ifCond .lt 10, 3) := by decide +kernel
theorem dX10_appendCharacter_4 : decode cX10_appendCharacter 4 = .ok (.iload_n 1, 1) := by decide +kernel
theorem dX10_appendCharacter_5 : decode cX10_appendCharacter 5 = .ok (.sipush 255, 3) := by decide +kernel
theorem dX10_appendCharacter_8 : decode cX10_appendCharacter 8 = .ok (.if_icmp .le 6, 3) := by decide +kernel
theorem dX10_appendCharacter_11 : decode cX10_appendCharacter 11 = .ok (.ldc 88, 2) := by decide +kernel
theorem dX10_appendCharacter_13 : decode cX10_appendCharacter 13 = .ok (.ireturn, 1) := by decide +kernel
theorem dX10_appendCharacter_14 : decode cX10_appendCharacter 14 = .ok (.aload_n 0, 1) := by decide +kernel
theorem dX10_appendCharacter_15 : decode cX10_appendCharacter 15 = .ok (.getfield 13, 3) := by decide +kernel
theorem dX10_appendCharacter_18 : decode cX10_appendCharacter 18 = .ok (.getfield 89, 3) := by decide +kernel
theorem dX10_appendCharacter_21 : decode cX10_appendCharacter 21 = .ok (.sipush 150, 3) := by decide +kernel
theorem dX10_appendCharacter_24 : decode cX10_appendCharacter 24 = .ok (.if_icmp .lt 6, 3) := by decide +kernel
theorem dX10_appendCharacter_27 : decode cX10_appendCharacter 27 = .ok (.ldc 93, 2) := by decide +kernel
theorem dX10_appendCharacter_29 : decode cX10_appendCharacter 29 = .ok (.ireturn, 1) := by decide +kernel
theorem dX10_appendCharacter_30 : decode cX10_appendCharacter 30 = .ok (.aload_n 0, 1) := by decide +kernel
theorem dX10_appendCharacter_31 : decode cX10_appendCharacter 31 = .ok (.getfield 13, 3) := by decide +kernel
theorem dX10_appendCharacter_34 : decode cX10_appendCharacter 34 = .ok (.iload_n 1, 1) := by decide +kernel
theorem dX10_appendCharacter_35 : decode cX10_appendCharacter 35 = .ok (.invokevirtual 94, 3) := by decide +kernel
theorem dX10_appendCharacter_38 : decode cX10_appendCharacter 38 = .ok (.aload_n 0, 1) := by decide +kernel
theorem dX10_appendCharacter_39 : decode cX10_appendCharacter 39 = .ok (.getfield 13, 3) := by decide +kernel
theorem dX10_appendCharacter_42 : decode cX10_appendCharacter 42 = .ok (.getfield 89, 3) := by decide +kernel
theorem dX10_appendCharacter_45 : decode cX10_appendCharacter 45 = .ok (.ireturn, 1) := by decide +kernel
abbrev rmX10_appendCharacter : Room := { frames := 1, cells := 0, slots := 0, locals := 40 }
abbrev sX10_appendCharacter (E : EV) : List AV → AH → (Option AV → AH → Prop) → Prop := Spec E yX10_appendCharacter cX10_appendCharacter 2 (some .int) rmX10_appendCharacter
theorem mX10_appendCharacter : Mt yX10_appendCharacter cX10_appendCharacter 2 (some .int) 1 := ⟨k351, k1, by decide +kernel⟩
theorem vX10_appendCharacter : MtV yX10_appendCharacter 10 := ⟨k349, k350, by decide, (RX10, TX10, 12), rfl, rfl⟩
def PX10_appendCharacter_0 (E : EV) (post : Option AV → AH → Prop) (h : AH) (l0 : Option Nat) (l1 : Int32) : Prop :=
  (l1 < 0 → post (some (aI (-1000001 : Int32))) h) ∧ (¬ l1 < 0 → (l1 ≤ (255 : Int32) → rdP h l0 10 0 fun x1 => rdI h x1 9 1 fun x2 => (x2 < (150 : Int32) → rdP h l0 10 0 fun x3 => CV (sX9_append E) x3 9 [aI l1] h (kV fun h5 => rdP h5 l0 10 0 fun x6 => rdI h5 x6 9 1 fun x7 => post (some (aI x7)) h5)) ∧ (¬ x2 < (150 : Int32) → post (some (aI (-1000003 : Int32))) h)) ∧ (¬ l1 ≤ (255 : Int32) → post (some (aI (-1000001 : Int32))) h))
theorem bX10_appendCharacter_0 {E : EV} {X : AX} {post : Option AV → AH → Prop} (C : Cb E X cX10_appendCharacter RX10 2 rmX10_appendCharacter) (D : Cr E X (some .int) rmX10_appendCharacter "appendCharacter" post) {h : AH} {l0 : Option Nat} {l1 : Int32} (w : PX10_appendCharacter_0 E post h l0 l1) : Go E X 2 0 0 0 [(0, aP l0), (1, aI l1)] [] h := by
  unfold PX10_appendCharacter_0 at w
  refine r_iload_n C dX10_appendCharacter_0 rfl 1 rfl ?_
  refine r_if_lt C dX10_appendCharacter_1 (tgt := 11) rfl (fun hc => ?_) (fun hc => ?_)
  · have w := w.1 hc
    refine r_ldc (v := -1000001) C dX10_appendCharacter_11 k352 ?_
    exact r_iret C D rfl (Nat.zero_le _) (Nat.zero_le _) dX10_appendCharacter_13 w
  · have w := w.2 hc
    refine r_iload_n C dX10_appendCharacter_4 rfl 1 rfl ?_
    refine r_sipush (v := 255) C dX10_appendCharacter_5 rfl ?_
    refine r_icmp_le C dX10_appendCharacter_8 (tgt := 14) rfl (fun hc => ?_) (fun hc => ?_)
    · have w := w.1 hc
      refine r_aload_n C dX10_appendCharacter_14 rfl 0 rfl ?_
      refine r_getP C fcX10 (f := 0) (by decide) rfl k311 dX10_appendCharacter_15 (w.mono fun x1 w => ?_)
      refine r_getI C fcX9 (f := 1) (by decide) rfl k76 dX10_appendCharacter_18 (w.mono fun x2 w => ?_)
      refine r_sipush (v := 150) C dX10_appendCharacter_21 rfl ?_
      refine r_icmp_lt C dX10_appendCharacter_24 (tgt := 30) rfl (fun hc => ?_) (fun hc => ?_)
      · have w := w.1 hc
        refine r_aload_n C dX10_appendCharacter_30 rfl 0 rfl ?_
        refine r_getP C fcX10 (f := 0) (by decide) rfl k311 dX10_appendCharacter_31 (w.mono fun x3 w => ?_)
        refine r_iload_n C dX10_appendCharacter_34 rfl 1 rfl ?_
        refine r_cvV (rm' := rmX9_append) C mX9_append vX9_append k354 [aI l1] [] rfl rfl (Nat.le_of_ble_eq_true rfl) (by decide) ⟨Nat.zero_le _, Nat.zero_le _⟩ 0 0 rfl rfl dX10_appendCharacter_35 w (fun h5 w => ?_)
        refine r_aload_n C dX10_appendCharacter_38 rfl 0 rfl ?_
        refine r_getP C fcX10 (f := 0) (by decide) rfl k311 dX10_appendCharacter_39 (w.mono fun x6 w => ?_)
        refine r_getI C fcX9 (f := 1) (by decide) rfl k76 dX10_appendCharacter_42 (w.mono fun x7 w => ?_)
        exact r_iret C D rfl (Nat.zero_le _) (Nat.zero_le _) dX10_appendCharacter_45 w
      · have w := w.2 hc
        refine r_ldc (v := -1000003) C dX10_appendCharacter_27 k353 ?_
        exact r_iret C D rfl (Nat.zero_le _) (Nat.zero_le _) dX10_appendCharacter_29 w
    · have w := w.2 hc
      refine r_ldc (v := -1000001) C dX10_appendCharacter_11 k352 ?_
      exact r_iret C D rfl (Nat.zero_le _) (Nat.zero_le _) dX10_appendCharacter_13 w
theorem eX10_appendCharacter {E : EV} {post : Option AV → AH → Prop} {h : AH} {l0 : Option Nat} {l1 : Int32} (w : PX10_appendCharacter_0 E post h l0 l1) : sX10_appendCharacter E [aP l0, aI l1] h post := Spec.of RX10 rfl rfl (Nat.le_of_ble_eq_true rfl) fun X C D => bX10_appendCharacter_0 C D w
theorem dX10_bestTurns_0 : decode cX10_bestTurns 0 = .ok (.iconst 4, 1) := by decide +kernel
theorem dX10_bestTurns_1 : decode cX10_bestTurns 1 = .ok (.istore_n 2, 1) := by decide +kernel
theorem dX10_bestTurns_2 : decode cX10_bestTurns 2 = .ok (.iconst 0, 1) := by decide +kernel
theorem dX10_bestTurns_3 : decode cX10_bestTurns 3 = .ok (.istore_n 3, 1) := by decide +kernel
theorem dX10_bestTurns_4 : decode cX10_bestTurns 4 = .ok (.iconst 0, 1) := by decide +kernel
theorem dX10_bestTurns_5 : decode cX10_bestTurns 5 = .ok (.istore 4, 2) := by decide +kernel
theorem dX10_bestTurns_7 : decode cX10_bestTurns 7 = .ok (.iconst 0, 1) := by decide +kernel
theorem dX10_bestTurns_8 : decode cX10_bestTurns 8 = .ok (.istore 5, 2) := by decide +kernel
theorem dX10_bestTurns_10 : decode cX10_bestTurns 10 = .ok (.iload 5, 2) := by decide +kernel
theorem dX10_bestTurns_12 : decode cX10_bestTurns 12 = .ok (.iconst 4, 1) := by decide +kernel
theorem dX10_bestTurns_13 : decode cX10_bestTurns 13 = .ok (.if_icmp .ge 113, 3) := by decide +kernel
theorem dX10_bestTurns_16 : decode cX10_bestTurns 16 = .ok (.aload_n 0, 1) := by decide +kernel
theorem dX10_bestTurns_17 : decode cX10_bestTurns 17 = .ok (.getfield 73, 3) := by decide +kernel
theorem dX10_bestTurns_20 : decode cX10_bestTurns 20 = .ok (.aload_n 1, 1) := by decide +kernel
theorem dX10_bestTurns_21 : decode cX10_bestTurns 21 = .ok (.iload 5, 2) := by decide +kernel
theorem dX10_bestTurns_23 : decode cX10_bestTurns 23 = .ok (.invokevirtual 244, 3) := by decide +kernel
theorem dX10_bestTurns_26 : decode cX10_bestTurns 26 = .ok (.aload_n 0, 1) := by decide +kernel
theorem dX10_bestTurns_27 : decode cX10_bestTurns 27 = .ok (.getfield 43, 3) := by decide +kernel
theorem dX10_bestTurns_30 : decode cX10_bestTurns 30 = .ok (.aload_n 0, 1) := by decide +kernel
theorem dX10_bestTurns_31 : decode cX10_bestTurns 31 = .ok (.getfield 52, 3) := by decide +kernel
theorem dX10_bestTurns_34 : decode cX10_bestTurns 34 = .ok (.aload_n 0, 1) := by decide +kernel
theorem dX10_bestTurns_35 : decode cX10_bestTurns 35 = .ok (.getfield 73, 3) := by decide +kernel
theorem dX10_bestTurns_38 : decode cX10_bestTurns 38 = .ok (.iconst (-1), 1) := by decide +kernel
theorem dX10_bestTurns_39 : decode cX10_bestTurns 39 = .ok (.invokevirtual 263, 3) := by decide +kernel
theorem dX10_bestTurns_42 : decode cX10_bestTurns 42 = .ok (.aload_n 0, 1) := by decide +kernel
theorem dX10_bestTurns_43 : decode cX10_bestTurns 43 = .ok (.getfield 43, 3) := by decide +kernel
theorem dX10_bestTurns_46 : decode cX10_bestTurns 46 = .ok (.invokevirtual 338, 3) := by decide +kernel
theorem dX10_bestTurns_49 : decode cX10_bestTurns 49 = .ok (.ifCond .eq 71, 3) := by decide +kernel
theorem dX10_bestTurns_52 : decode cX10_bestTurns 52 = .ok (.aload_n 0, 1) := by decide +kernel
theorem dX10_bestTurns_53 : decode cX10_bestTurns 53 = .ok (.getfield 43, 3) := by decide +kernel
theorem dX10_bestTurns_56 : decode cX10_bestTurns 56 = .ok (.getfield 344, 3) := by decide +kernel
theorem dX10_bestTurns_59 : decode cX10_bestTurns 59 = .ok (.aload_n 0, 1) := by decide +kernel
theorem dX10_bestTurns_60 : decode cX10_bestTurns 60 = .ok (.getfield 73, 3) := by decide +kernel
theorem dX10_bestTurns_63 : decode cX10_bestTurns 63 = .ok (.getfield 347, 3) := by decide +kernel
theorem dX10_bestTurns_66 : decode cX10_bestTurns 66 = .ok (.iadd, 1) := by decide +kernel
theorem dX10_bestTurns_67 : decode cX10_bestTurns 67 = .ok (.istore 6, 2) := by decide +kernel
theorem dX10_bestTurns_69 : decode cX10_bestTurns 69 = .ok (.aload_n 0, 1) := by decide +kernel
theorem dX10_bestTurns_70 : decode cX10_bestTurns 70 = .ok (.getfield 43, 3) := by decide +kernel
theorem dX10_bestTurns_73 : decode cX10_bestTurns 73 = .ok (.getfield 341, 3) := by decide +kernel
theorem dX10_bestTurns_76 : decode cX10_bestTurns 76 = .ok (.aload_n 0, 1) := by decide +kernel
theorem dX10_bestTurns_77 : decode cX10_bestTurns 77 = .ok (.getfield 73, 3) := by decide +kernel
theorem dX10_bestTurns_80 : decode cX10_bestTurns 80 = .ok (.getfield 350, 3) := by decide +kernel
theorem dX10_bestTurns_83 : decode cX10_bestTurns 83 = .ok (.iadd, 1) := by decide +kernel
theorem dX10_bestTurns_84 : decode cX10_bestTurns 84 = .ok (.istore 7, 2) := by decide +kernel
theorem dX10_bestTurns_86 : decode cX10_bestTurns 86 = .ok (.iload_n 2, 1) := by decide +kernel
theorem dX10_bestTurns_87 : decode cX10_bestTurns 87 = .ok (.iconst 4, 1) := by decide +kernel
theorem dX10_bestTurns_88 : decode cX10_bestTurns 88 = .ok (.if_icmp .eq 22, 3) := by decide +kernel
theorem dX10_bestTurns_91 : decode cX10_bestTurns 91 = .ok (.iload 6, 2) := by decide +kernel
theorem dX10_bestTurns_93 : decode cX10_bestTurns 93 = .ok (.iload_n 3, 1) := by decide +kernel
theorem dX10_bestTurns_94 : decode cX10_bestTurns 94 = .ok (.if_icmp .lt 16, 3) := by decide +kernel
theorem dX10_bestTurns_97 : decode cX10_bestTurns 97 = .ok (.iload 6, 2) := by decide +kernel
theorem dX10_bestTurns_99 : decode cX10_bestTurns 99 = .ok (.iload_n 3, 1) := by decide +kernel
theorem dX10_bestTurns_100 : decode cX10_bestTurns 100 = .ok (.if_icmp .ne 20, 3) := by decide +kernel
theorem dX10_bestTurns_103 : decode cX10_bestTurns 103 = .ok (.iload 7, 2) := by decide +kernel
theorem dX10_bestTurns_105 : decode cX10_bestTurns 105 = .ok (.iload 4, 2) := by decide +kernel
theorem dX10_bestTurns_107 : decode cX10_bestTurns 107 = .ok (.if_icmp .ge 13, 3) := by decide +kernel
theorem dX10_bestTurns_110 : decode cX10_bestTurns 110 = .ok (.iload 5, 2) := by decide +kernel
theorem dX10_bestTurns_112 : decode cX10_bestTurns 112 = .ok (.istore_n 2, 1) := by decide +kernel
theorem dX10_bestTurns_113 : decode cX10_bestTurns 113 = .ok (.iload 6, 2) := by decide +kernel
theorem dX10_bestTurns_115 : decode cX10_bestTurns 115 = .ok (.istore_n 3, 1) := by decide +kernel
theorem dX10_bestTurns_116 : decode cX10_bestTurns 116 = .ok (.iload 7, 2) := by decide +kernel
theorem dX10_bestTurns_118 : decode cX10_bestTurns 118 = .ok (.istore 4, 2) := by decide +kernel
theorem dX10_bestTurns_120 : decode cX10_bestTurns 120 = .ok (.iinc 5 1, 3) := by decide +kernel
theorem dX10_bestTurns_123 : decode cX10_bestTurns 123 = .ok (.goto (-113), 3) := by decide +kernel
theorem dX10_bestTurns_126 : decode cX10_bestTurns 126 = .ok (.iload_n 2, 1) := by decide +kernel
theorem dX10_bestTurns_127 : decode cX10_bestTurns 127 = .ok (.ireturn, 1) := by decide +kernel
abbrev rmX10_bestTurns : Room := { frames := 5, cells := 0, slots := 0, locals := 200 }
abbrev sX10_bestTurns (E : EV) : List AV → AH → (Option AV → AH → Prop) → Prop := Spec E yX10_bestTurns cX10_bestTurns 8 (some .int) rmX10_bestTurns
theorem mX10_bestTurns : Mt yX10_bestTurns cX10_bestTurns 8 (some .int) 1 := ⟨k794, k1, by decide +kernel⟩
theorem vX10_bestTurns : MtV yX10_bestTurns 10 := ⟨k793, kp18, by decide, (RX10, TX10, 12), rfl, rfl⟩
def PX10_bestTurns_110 (E : EV) (post : Option AV → AH → Prop) (J10 : AH → Option Nat → Option Nat → Int32 → Int32 → Int32 → Int32 → Prop) (h : AH) (l0 : Option Nat) (l1 : Option Nat) (l5 : Int32) (l6 : Int32) (l7 : Int32) : Prop :=
  J10 h l0 l1 l5 l6 l7 (l5 + (1 : Int32))
theorem bX10_bestTurns_110 {E : EV} {X : AX} {post : Option AV → AH → Prop} (C : Cb E X cX10_bestTurns RX10 8 rmX10_bestTurns) (D : Cr E X (some .int) rmX10_bestTurns "bestTurns" post) {J10 : AH → Option Nat → Option Nat → Int32 → Int32 → Int32 → Int32 → Prop} (g10 : ∀ (h : AH) (l0 : Option Nat) (l1 : Option Nat) (l2 : Int32) (l3 : Int32) (l4 : Int32) (l5 : Int32), J10 h l0 l1 l2 l3 l4 l5 → Go E X 8 0 0 10 [(0, aP l0), (1, aP l1), (2, aI l2), (3, aI l3), (4, aI l4), (5, aI l5)] [] h) {h : AH} {l0 : Option Nat} {l1 : Option Nat} {l5 : Int32} {l6 : Int32} {l7 : Int32} (w : PX10_bestTurns_110 E post J10 h l0 l1 l5 l6 l7) : Go E X 8 0 0 110 [(0, aP l0), (1, aP l1), (5, aI l5), (6, aI l6), (7, aI l7)] [] h := by
  unfold PX10_bestTurns_110 at w
  refine r_iload C dX10_bestTurns_110 2 rfl ?_
  refine r_istore_n C dX10_bestTurns_112 rfl (by decide) rfl ?_
  refine r_iload C dX10_bestTurns_113 4 rfl ?_
  refine r_istore_n C dX10_bestTurns_115 rfl (by decide) rfl ?_
  refine r_iload C dX10_bestTurns_116 6 rfl ?_
  refine r_istore C dX10_bestTurns_118 (by decide) rfl ?_
  refine r_iinc C dX10_bestTurns_120 5 rfl (v := 1) rfl (by decide) rfl ?_
  refine r_goto C dX10_bestTurns_123 (tgt := 10) rfl ?_
  exact r_sub [4, 5, 3, 2, 1, 0] rfl (g10 h l0 l1 l5 l6 l7 (l5 + (1 : Int32)) w)
def PX10_bestTurns_10 (E : EV) (post : Option AV → AH → Prop) (J10 : AH → Option Nat → Option Nat → Int32 → Int32 → Int32 → Int32 → Prop) (h : AH) (l0 : Option Nat) (l1 : Option Nat) (l2 : Int32) (l3 : Int32) (l4 : Int32) (l5 : Int32) : Prop :=
  ((4 : Int32) ≤ l5 → post (some (aI l2)) h) ∧ (¬ (4 : Int32) ≤ l5 → rdP h l0 10 9 fun x1 => CV (sX6_setTurned E) x1 6 [aP l1, aI l5] h (kV fun h3 => rdP h3 l0 10 4 fun x4 => rdP h3 l0 10 5 fun x5 => rdP h3 l0 10 9 fun x6 => CV (sX4_prepare E) x4 4 [aP x5, aP x6, aI (-1 : Int32)] h3 (kV fun h8 => rdP h8 l0 10 4 fun x9 => CV (sX4_findBottomLeft E) x9 4 [] h8 (kI fun x10 h11 => (x10 = 0 → J10 h11 l0 l1 l2 l3 l4 (l5 + (1 : Int32))) ∧ (¬ x10 = 0 → rdP h11 l0 10 4 fun x12 => rdI h11 x12 4 9 fun x13 => rdP h11 l0 10 9 fun x14 => rdI h11 x14 6 8 fun x15 => ∀ v16, v16 = (x13 + x15) → rdP h11 l0 10 4 fun x17 => rdI h11 x17 4 8 fun x18 => rdP h11 l0 10 9 fun x19 => rdI h11 x19 6 7 fun x20 => ∀ v21, v21 = (x18 + x20) → (l2 = (4 : Int32) → PX10_bestTurns_110 E post J10 h11 l0 l1 l5 v16 v21) ∧ (¬ l2 = (4 : Int32) → (v16 < l3 → PX10_bestTurns_110 E post J10 h11 l0 l1 l5 v16 v21) ∧ (¬ v16 < l3 → (¬ v16 = l3 → J10 h11 l0 l1 l2 l3 l4 (l5 + (1 : Int32))) ∧ (v16 = l3 → (l4 ≤ v21 → J10 h11 l0 l1 l2 l3 l4 (l5 + (1 : Int32))) ∧ (¬ l4 ≤ v21 → PX10_bestTurns_110 E post J10 h11 l0 l1 l5 v16 v21)))))))))
theorem bX10_bestTurns_10 {E : EV} {X : AX} {post : Option AV → AH → Prop} (C : Cb E X cX10_bestTurns RX10 8 rmX10_bestTurns) (D : Cr E X (some .int) rmX10_bestTurns "bestTurns" post) {J10 : AH → Option Nat → Option Nat → Int32 → Int32 → Int32 → Int32 → Prop} (g10 : ∀ (h : AH) (l0 : Option Nat) (l1 : Option Nat) (l2 : Int32) (l3 : Int32) (l4 : Int32) (l5 : Int32), J10 h l0 l1 l2 l3 l4 l5 → Go E X 8 0 0 10 [(0, aP l0), (1, aP l1), (2, aI l2), (3, aI l3), (4, aI l4), (5, aI l5)] [] h) {h : AH} {l0 : Option Nat} {l1 : Option Nat} {l2 : Int32} {l3 : Int32} {l4 : Int32} {l5 : Int32} (w : PX10_bestTurns_10 E post J10 h l0 l1 l2 l3 l4 l5) : Go E X 8 0 0 10 [(0, aP l0), (1, aP l1), (2, aI l2), (3, aI l3), (4, aI l4), (5, aI l5)] [] h := by
  unfold PX10_bestTurns_10 at w
  refine r_iload C dX10_bestTurns_10 5 rfl ?_
  refine r_iconst (v := 4) C dX10_bestTurns_12 rfl ?_
  refine r_icmp_ge C dX10_bestTurns_13 (tgt := 126) rfl (fun hc => ?_) (fun hc => ?_)
  · have w := w.1 hc
    refine r_iload_n C dX10_bestTurns_126 rfl 2 rfl ?_
    exact r_iret C D rfl (Nat.zero_le _) (Nat.zero_le _) dX10_bestTurns_127 w
  · have w := w.2 hc
    refine r_aload_n C dX10_bestTurns_16 rfl 0 rfl ?_
    refine r_getP C fcX10 (f := 9) (by decide) rfl k320 dX10_bestTurns_17 (w.mono fun x1 w => ?_)
    refine r_aload_n C dX10_bestTurns_20 rfl 1 rfl ?_
    refine r_iload C dX10_bestTurns_21 5 rfl ?_
    refine r_cvV (rm' := rmX6_setTurned) C mX6_setTurned vX6_setTurned k466 [aP l1, aI l5] [] rfl rfl (Nat.le_of_ble_eq_true rfl) (by decide) ⟨Nat.zero_le _, Nat.zero_le _⟩ 0 0 rfl rfl dX10_bestTurns_23 w (fun h3 w => ?_)
    refine r_aload_n C dX10_bestTurns_26 rfl 0 rfl ?_
    refine r_getP C fcX10 (f := 4) (by decide) rfl k315 dX10_bestTurns_27 (w.mono fun x4 w => ?_)
    refine r_aload_n C dX10_bestTurns_30 rfl 0 rfl ?_
    refine r_getP C fcX10 (f := 5) (by decide) rfl k316 dX10_bestTurns_31 (w.mono fun x5 w => ?_)
    refine r_aload_n C dX10_bestTurns_34 rfl 0 rfl ?_
    refine r_getP C fcX10 (f := 9) (by decide) rfl k320 dX10_bestTurns_35 (w.mono fun x6 w => ?_)
    refine r_iconst (v := -1) C dX10_bestTurns_38 rfl ?_
    refine r_cvV (rm' := rmX4_prepare) C mX4_prepare vX4_prepare k726 [aP x5, aP x6, aI (-1 : Int32)] [] rfl rfl (Nat.le_of_ble_eq_true rfl) (by decide) ⟨Nat.zero_le _, Nat.zero_le _⟩ 0 0 rfl rfl dX10_bestTurns_39 w (fun h8 w => ?_)
    refine r_aload_n C dX10_bestTurns_42 rfl 0 rfl ?_
    refine r_getP C fcX10 (f := 4) (by decide) rfl k315 dX10_bestTurns_43 (w.mono fun x9 w => ?_)
    refine r_cvI (rm' := rmX4_findBottomLeft) C mX4_findBottomLeft vX4_findBottomLeft k782 [] [] rfl rfl (Nat.le_of_ble_eq_true rfl) (by decide) ⟨Nat.zero_le _, Nat.zero_le _⟩ 0 0 rfl rfl dX10_bestTurns_46 w (fun x10 h11 w => ?_)
    refine r_if_eq C dX10_bestTurns_49 (tgt := 120) rfl (fun hc => ?_) (fun hc => ?_)
    · have w := w.1 hc
      refine r_iinc C dX10_bestTurns_120 5 rfl (v := 1) rfl (by decide) rfl ?_
      refine r_goto C dX10_bestTurns_123 (tgt := 10) rfl ?_
      exact r_sub [1, 2, 3, 4, 5, 0] rfl (g10 h11 l0 l1 l2 l3 l4 (l5 + (1 : Int32)) w)
    · have w := w.2 hc
      refine r_aload_n C dX10_bestTurns_52 rfl 0 rfl ?_
      refine r_getP C fcX10 (f := 4) (by decide) rfl k315 dX10_bestTurns_53 (w.mono fun x12 w => ?_)
      refine r_getI C fcX4 (f := 9) (by decide) rfl k223 dX10_bestTurns_56 (w.mono fun x13 w => ?_)
      refine r_aload_n C dX10_bestTurns_59 rfl 0 rfl ?_
      refine r_getP C fcX10 (f := 9) (by decide) rfl k320 dX10_bestTurns_60 (w.mono fun x14 w => ?_)
      refine r_getI C fcX6 (f := 8) (by decide) rfl k47 dX10_bestTurns_63 (w.mono fun x15 w => ?_)
      refine r_iadd C dX10_bestTurns_66 ?_
      refine r_istore C dX10_bestTurns_67 (by decide) rfl ?_
      have w := w _ rfl
      skip
      refine r_aload_n C dX10_bestTurns_69 rfl 1 rfl ?_
      refine r_getP C fcX10 (f := 4) (by decide) rfl k315 dX10_bestTurns_70 (w.mono fun x17 w => ?_)
      refine r_getI C fcX4 (f := 8) (by decide) rfl k221 dX10_bestTurns_73 (w.mono fun x18 w => ?_)
      refine r_aload_n C dX10_bestTurns_76 rfl 1 rfl ?_
      refine r_getP C fcX10 (f := 9) (by decide) rfl k320 dX10_bestTurns_77 (w.mono fun x19 w => ?_)
      refine r_getI C fcX6 (f := 7) (by decide) rfl k44 dX10_bestTurns_80 (w.mono fun x20 w => ?_)
      refine r_iadd C dX10_bestTurns_83 ?_
      refine r_istore C dX10_bestTurns_84 (by decide) rfl ?_
      have w := w _ rfl
      skip
      refine r_iload_n C dX10_bestTurns_86 rfl 4 rfl ?_
      refine r_iconst (v := 4) C dX10_bestTurns_87 rfl ?_
      refine r_icmp_eq C dX10_bestTurns_88 (tgt := 110) rfl (fun hc => ?_) (fun hc => ?_)
      · have w := w.1 hc
        exact r_sub [2, 3, 7, 1, 0] rfl (bX10_bestTurns_110 C D g10 w)
      · have w := w.2 hc
        refine r_iload C dX10_bestTurns_91 1 rfl ?_
        refine r_iload_n C dX10_bestTurns_93 rfl 5 rfl ?_
        refine r_icmp_lt C dX10_bestTurns_94 (tgt := 110) rfl (fun hc => ?_) (fun hc => ?_)
        · have w := w.1 hc
          exact r_sub [2, 3, 7, 1, 0] rfl (bX10_bestTurns_110 C D g10 w)
        · have w := w.2 hc
          refine r_iload C dX10_bestTurns_97 1 rfl ?_
          refine r_iload_n C dX10_bestTurns_99 rfl 5 rfl ?_
          refine r_icmp_ne C dX10_bestTurns_100 (tgt := 120) rfl (fun hc => ?_) (fun hc => ?_)
          · have w := w.1 hc
            refine r_iinc C dX10_bestTurns_120 7 rfl (v := 1) rfl (by decide) rfl ?_
            refine r_goto C dX10_bestTurns_123 (tgt := 10) rfl ?_
            exact r_sub [3, 4, 5, 6, 7, 0] rfl (g10 h11 l0 l1 l2 l3 l4 (l5 + (1 : Int32)) w)
          · have w := w.2 hc
            refine r_iload C dX10_bestTurns_103 0 rfl ?_
            refine r_iload C dX10_bestTurns_105 6 rfl ?_
            refine r_icmp_ge C dX10_bestTurns_107 (tgt := 120) rfl (fun hc => ?_) (fun hc => ?_)
            · have w := w.1 hc
              refine r_iinc C dX10_bestTurns_120 7 rfl (v := 1) rfl (by decide) rfl ?_
              refine r_goto C dX10_bestTurns_123 (tgt := 10) rfl ?_
              exact r_sub [3, 4, 5, 6, 7, 0] rfl (g10 h11 l0 l1 l2 l3 l4 (l5 + (1 : Int32)) w)
            · have w := w.2 hc
              exact r_sub [2, 3, 7, 1, 0] rfl (bX10_bestTurns_110 C D g10 w)
theorem lpX10_bestTurns_10 {E : EV} {X : AX} {post : Option AV → AH → Prop} (C : Cb E X cX10_bestTurns RX10 8 rmX10_bestTurns) (D : Cr E X (some .int) rmX10_bestTurns "bestTurns" post) (I : Nat → AH → Option Nat → Option Nat → Int32 → Int32 → Int32 → Int32 → Prop) (step : ∀ (z : Nat) (h : AH) (l0 : Option Nat) (l1 : Option Nat) (l2 : Int32) (l3 : Int32) (l4 : Int32) (l5 : Int32), I z h l0 l1 l2 l3 l4 l5 → PX10_bestTurns_10 E post (fun h l0 l1 l2 l3 l4 l5 => ∃ z', z' < z ∧ I z' h l0 l1 l2 l3 l4 l5) h l0 l1 l2 l3 l4 l5) : ∀ (z : Nat) (h : AH) (l0 : Option Nat) (l1 : Option Nat) (l2 : Int32) (l3 : Int32) (l4 : Int32) (l5 : Int32), I z h l0 l1 l2 l3 l4 l5 → Go E X 8 0 0 10 [(0, aP l0), (1, aP l1), (2, aI l2), (3, aI l3), (4, aI l4), (5, aI l5)] [] h := by
  intro z
  induction z using Nat.strongRecOn with
  | _ z ih =>
    intro h l0 l1 l2 l3 l4 l5 hI
    exact bX10_bestTurns_10 C D (fun h l0 l1 l2 l3 l4 l5 hJ => by obtain ⟨z', hz, hi⟩ := hJ; exact ih z' hz h l0 l1 l2 l3 l4 l5 hi) (step z h l0 l1 l2 l3 l4 l5 hI)
def PX10_bestTurns_0 (E : EV) (post : Option AV → AH → Prop) (J10 : AH → Option Nat → Option Nat → Int32 → Int32 → Int32 → Int32 → Prop) (h : AH) (l0 : Option Nat) (l1 : Option Nat) : Prop :=
  J10 h l0 l1 (4 : Int32) (0 : Int32) (0 : Int32) (0 : Int32)
theorem bX10_bestTurns_0 {E : EV} {X : AX} {post : Option AV → AH → Prop} (C : Cb E X cX10_bestTurns RX10 8 rmX10_bestTurns) (D : Cr E X (some .int) rmX10_bestTurns "bestTurns" post) {J10 : AH → Option Nat → Option Nat → Int32 → Int32 → Int32 → Int32 → Prop} (g10 : ∀ (h : AH) (l0 : Option Nat) (l1 : Option Nat) (l2 : Int32) (l3 : Int32) (l4 : Int32) (l5 : Int32), J10 h l0 l1 l2 l3 l4 l5 → Go E X 8 0 0 10 [(0, aP l0), (1, aP l1), (2, aI l2), (3, aI l3), (4, aI l4), (5, aI l5)] [] h) {h : AH} {l0 : Option Nat} {l1 : Option Nat} (w : PX10_bestTurns_0 E post J10 h l0 l1) : Go E X 8 0 0 0 [(0, aP l0), (1, aP l1)] [] h := by
  unfold PX10_bestTurns_0 at w
  refine r_iconst (v := 4) C dX10_bestTurns_0 rfl ?_
  refine r_istore_n C dX10_bestTurns_1 rfl (by decide) rfl ?_
  refine r_iconst (v := 0) C dX10_bestTurns_2 rfl ?_
  refine r_istore_n C dX10_bestTurns_3 rfl (by decide) rfl ?_
  refine r_iconst (v := 0) C dX10_bestTurns_4 rfl ?_
  refine r_istore C dX10_bestTurns_5 (by decide) rfl ?_
  refine r_iconst (v := 0) C dX10_bestTurns_7 rfl ?_
  refine r_istore C dX10_bestTurns_8 (by decide) rfl ?_
  exact r_sub [4, 5, 3, 2, 1, 0] rfl (g10 h l0 l1 (4 : Int32) (0 : Int32) (0 : Int32) (0 : Int32) w)
theorem eX10_bestTurns {E : EV} {post : Option AV → AH → Prop} {h : AH} {l0 : Option Nat} {l1 : Option Nat} {J10 : AH → Option Nat → Option Nat → Int32 → Int32 → Int32 → Int32 → Prop} (g10 : ∀ X : AX, Cb E X cX10_bestTurns RX10 8 rmX10_bestTurns → Cr E X (some .int) rmX10_bestTurns "bestTurns" post → ∀ (h : AH) (l0 : Option Nat) (l1 : Option Nat) (l2 : Int32) (l3 : Int32) (l4 : Int32) (l5 : Int32), J10 h l0 l1 l2 l3 l4 l5 → Go E X 8 0 0 10 [(0, aP l0), (1, aP l1), (2, aI l2), (3, aI l3), (4, aI l4), (5, aI l5)] [] h) (w : PX10_bestTurns_0 E post J10 h l0 l1) : sX10_bestTurns E [aP l0, aP l1] h post := Spec.of RX10 rfl rfl (Nat.le_of_ble_eq_true rfl) fun X C D => bX10_bestTurns_0 C D (g10 X C D) w
theorem dX10_directionX_0 : decode cX10_directionX 0 = .ok (.iload_n 0, 1) := by decide +kernel
theorem dX10_directionX_1 : decode cX10_directionX 1 = .ok (.ifCond .lt 19, 3) := by decide +kernel
theorem dX10_directionX_4 : decode cX10_directionX 4 = .ok (.iload_n 0, 1) := by decide +kernel
theorem dX10_directionX_5 : decode cX10_directionX 5 = .ok (.getstatic 322, 3) := by decide +kernel
theorem dX10_directionX_8 : decode cX10_directionX 8 = .ok (.arraylength, 1) := by decide +kernel
theorem dX10_directionX_9 : decode cX10_directionX 9 = .ok (.if_icmp .ge 11, 3) := by decide +kernel
theorem dX10_directionX_12 : decode cX10_directionX 12 = .ok (.getstatic 322, 3) := by decide +kernel
theorem dX10_directionX_15 : decode cX10_directionX 15 = .ok (.iload_n 0, 1) := by decide +kernel
theorem dX10_directionX_16 : decode cX10_directionX 16 = .ok (.iaload, 1) := by decide +kernel
theorem dX10_directionX_17 : decode cX10_directionX 17 = .ok (.goto 4, 3) := by decide +kernel
theorem dX10_directionX_20 : decode cX10_directionX 20 = .ok (.iconst 0, 1) := by decide +kernel
theorem dX10_directionX_21 : decode cX10_directionX 21 = .ok (.ireturn, 1) := by decide +kernel
abbrev rmX10_directionX : Room := { frames := 0, cells := 0, slots := 0, locals := 0 }
abbrev sX10_directionX (E : EV) : List AV → AH → (Option AV → AH → Prop) → Prop := Spec E yX10_directionX cX10_directionX 1 (some .int) rmX10_directionX
theorem mX10_directionX : Mt yX10_directionX cX10_directionX 1 (some .int) 1 := ⟨k605, k1, by decide +kernel⟩
theorem vX10_directionX : MtS yX10_directionX := k604
def PX10_directionX_0 (E : EV) (post : Option AV → AH → Prop) (h : AH) (l0 : Int32) : Prop :=
  (l0 < 0 → post (some (aI (0 : Int32))) h) ∧ (¬ l0 < 0 → ((8 : Int32) ≤ l0 → post (some (aI (0 : Int32))) h) ∧ (¬ (8 : Int32) ≤ l0 → ¬ l0 < 0 ∧ l0.toNatClampNeg < 8 ∧ (post (some (aI (dirxF l0.toNatClampNeg))) h)))
theorem bX10_directionX_0 {E : EV} {X : AX} {post : Option AV → AH → Prop} (C : Cb E X cX10_directionX RX10 1 rmX10_directionX) (D : Cr E X (some .int) rmX10_directionX "directionX" post) {h : AH} {l0 : Int32} (w : PX10_directionX_0 E post h l0) : Go E X 1 0 0 0 [(0, aI l0)] [] h := by
  unfold PX10_directionX_0 at w
  refine r_iload_n C dX10_directionX_0 rfl 0 rfl ?_
  refine r_if_lt C dX10_directionX_1 (tgt := 20) rfl (fun hc => ?_) (fun hc => ?_)
  · have w := w.1 hc
    refine r_iconst (v := 0) C dX10_directionX_20 rfl ?_
    exact r_iret C D rfl (Nat.zero_le _) (Nat.zero_le _) dX10_directionX_21 w
  · have w := w.2 hc
    refine r_iload_n C dX10_directionX_4 rfl 0 rfl ?_
    refine r_stlen C (cb_sta (f := fun _ _ => True) C).1 k606 dX10_directionX_5 dX10_directionX_8 ?_
    refine r_icmp_ge C dX10_directionX_9 (tgt := 20) rfl (fun hc => ?_) (fun hc => ?_)
    · have w := w.1 hc
      refine r_iconst (v := 0) C dX10_directionX_20 rfl ?_
      exact r_iret C D rfl (Nat.zero_le _) (Nat.zero_le _) dX10_directionX_21 w
    · have w := w.2 hc
      refine r_stald (q := 0) C (cb_sta (f := fun _ _ => True) C).1 k606 dX10_directionX_12 dX10_directionX_15 dX10_directionX_16 rfl w.1 w.2.1 ?_
      have w := w.2.2
      refine r_goto C dX10_directionX_17 (tgt := 21) rfl ?_
      exact r_iret C D rfl (Nat.zero_le _) (Nat.zero_le _) dX10_directionX_21 w
theorem eX10_directionX {E : EV} {post : Option AV → AH → Prop} {h : AH} {l0 : Int32} (w : PX10_directionX_0 E post h l0) : sX10_directionX E [aI l0] h post := Spec.of RX10 rfl rfl (Nat.le_of_ble_eq_true rfl) fun X C D => bX10_directionX_0 C D w
theorem dX10_directionY_0 : decode cX10_directionY 0 = .ok (.iload_n 0, 1) := by decide +kernel
theorem dX10_directionY_1 : decode cX10_directionY 1 = .ok (.ifCond .lt 19, 3) := by decide +kernel
theorem dX10_directionY_4 : decode cX10_directionY 4 = .ok (.iload_n 0, 1) := by decide +kernel
theorem dX10_directionY_5 : decode cX10_directionY 5 = .ok (.getstatic 325, 3) := by decide +kernel
theorem dX10_directionY_8 : decode cX10_directionY 8 = .ok (.arraylength, 1) := by decide +kernel
theorem dX10_directionY_9 : decode cX10_directionY 9 = .ok (.if_icmp .ge 11, 3) := by decide +kernel
theorem dX10_directionY_12 : decode cX10_directionY 12 = .ok (.getstatic 325, 3) := by decide +kernel
theorem dX10_directionY_15 : decode cX10_directionY 15 = .ok (.iload_n 0, 1) := by decide +kernel
theorem dX10_directionY_16 : decode cX10_directionY 16 = .ok (.iaload, 1) := by decide +kernel
theorem dX10_directionY_17 : decode cX10_directionY 17 = .ok (.goto 4, 3) := by decide +kernel
theorem dX10_directionY_20 : decode cX10_directionY 20 = .ok (.iconst 0, 1) := by decide +kernel
theorem dX10_directionY_21 : decode cX10_directionY 21 = .ok (.ireturn, 1) := by decide +kernel
abbrev rmX10_directionY : Room := { frames := 0, cells := 0, slots := 0, locals := 0 }
abbrev sX10_directionY (E : EV) : List AV → AH → (Option AV → AH → Prop) → Prop := Spec E yX10_directionY cX10_directionY 1 (some .int) rmX10_directionY
theorem mX10_directionY : Mt yX10_directionY cX10_directionY 1 (some .int) 1 := ⟨k610, k1, by decide +kernel⟩
theorem vX10_directionY : MtS yX10_directionY := k609
def PX10_directionY_0 (E : EV) (post : Option AV → AH → Prop) (h : AH) (l0 : Int32) : Prop :=
  (l0 < 0 → post (some (aI (0 : Int32))) h) ∧ (¬ l0 < 0 → ((8 : Int32) ≤ l0 → post (some (aI (0 : Int32))) h) ∧ (¬ (8 : Int32) ≤ l0 → ¬ l0 < 0 ∧ l0.toNatClampNeg < 8 ∧ (post (some (aI (diryF l0.toNatClampNeg))) h)))
theorem bX10_directionY_0 {E : EV} {X : AX} {post : Option AV → AH → Prop} (C : Cb E X cX10_directionY RX10 1 rmX10_directionY) (D : Cr E X (some .int) rmX10_directionY "directionY" post) {h : AH} {l0 : Int32} (w : PX10_directionY_0 E post h l0) : Go E X 1 0 0 0 [(0, aI l0)] [] h := by
  unfold PX10_directionY_0 at w
  refine r_iload_n C dX10_directionY_0 rfl 0 rfl ?_
  refine r_if_lt C dX10_directionY_1 (tgt := 20) rfl (fun hc => ?_) (fun hc => ?_)
  · have w := w.1 hc
    refine r_iconst (v := 0) C dX10_directionY_20 rfl ?_
    exact r_iret C D rfl (Nat.zero_le _) (Nat.zero_le _) dX10_directionY_21 w
  · have w := w.2 hc
    refine r_iload_n C dX10_directionY_4 rfl 0 rfl ?_
    refine r_stlen C (cb_sta (f := fun _ _ => True) C).2 k611 dX10_directionY_5 dX10_directionY_8 ?_
    refine r_icmp_ge C dX10_directionY_9 (tgt := 20) rfl (fun hc => ?_) (fun hc => ?_)
    · have w := w.1 hc
      refine r_iconst (v := 0) C dX10_directionY_20 rfl ?_
      exact r_iret C D rfl (Nat.zero_le _) (Nat.zero_le _) dX10_directionY_21 w
    · have w := w.2 hc
      refine r_stald (q := 0) C (cb_sta (f := fun _ _ => True) C).2 k611 dX10_directionY_12 dX10_directionY_15 dX10_directionY_16 rfl w.1 w.2.1 ?_
      have w := w.2.2
      refine r_goto C dX10_directionY_17 (tgt := 21) rfl ?_
      exact r_iret C D rfl (Nat.zero_le _) (Nat.zero_le _) dX10_directionY_21 w
theorem eX10_directionY {E : EV} {post : Option AV → AH → Prop} {h : AH} {l0 : Int32} (w : PX10_directionY_0 E post h l0) : sX10_directionY E [aI l0] h post := Spec.of RX10 rfl rfl (Nat.le_of_ble_eq_true rfl) fun X C D => bX10_directionY_0 C D w
theorem dX10_blockersOf_0 : decode cX10_blockersOf 0 = .ok (.iload_n 2, 1) := by decide +kernel
theorem dX10_blockersOf_1 : decode cX10_blockersOf 1 = .ok (.invokestatic 171, 3) := by decide +kernel
theorem dX10_blockersOf_4 : decode cX10_blockersOf 4 = .ok (.istore_n 3, 1) := by decide +kernel
theorem dX10_blockersOf_5 : decode cX10_blockersOf 5 = .ok (.iload_n 2, 1) := by decide +kernel
theorem dX10_blockersOf_6 : decode cX10_blockersOf 6 = .ok (.invokestatic 174, 3) := by decide +kernel
theorem dX10_blockersOf_9 : decode cX10_blockersOf 9 = .ok (.istore 4, 2) := by decide +kernel
theorem dX10_blockersOf_11 : decode cX10_blockersOf 11 = .ok (.iconst 0, 1) := by decide +kernel
theorem dX10_blockersOf_12 : decode cX10_blockersOf 12 = .ok (.istore 5, 2) := by decide +kernel
theorem dX10_blockersOf_14 : decode cX10_blockersOf 14 = .ok (.iconst 0, 1) := by decide +kernel
theorem dX10_blockersOf_15 : decode cX10_blockersOf 15 = .ok (.istore 6, 2) := by decide +kernel
theorem dX10_blockersOf_17 : decode cX10_blockersOf 17 = .ok (.iload 6, 2) := by decide +kernel
theorem dX10_blockersOf_19 : decode cX10_blockersOf 19 = .ok (.aload_n 0, 1) := by decide +kernel
theorem dX10_blockersOf_20 : decode cX10_blockersOf 20 = .ok (.getfield 52, 3) := by decide +kernel
theorem dX10_blockersOf_23 : decode cX10_blockersOf 23 = .ok (.getfield 218, 3) := by decide +kernel
theorem dX10_blockersOf_26 : decode cX10_blockersOf 26 = .ok (.if_icmp .ge 98, 3) := by decide +kernel
theorem dX10_blockersOf_29 : decode cX10_blockersOf 29 = .ok (.aload_n 0, 1) := by decide +kernel
theorem dX10_blockersOf_30 : decode cX10_blockersOf 30 = .ok (.getfield 52, 3) := by decide +kernel
theorem dX10_blockersOf_33 : decode cX10_blockersOf 33 = .ok (.iload_n 1, 1) := by decide +kernel
theorem dX10_blockersOf_34 : decode cX10_blockersOf 34 = .ok (.invokevirtual 274, 3) := by decide +kernel
theorem dX10_blockersOf_37 : decode cX10_blockersOf 37 = .ok (.aload_n 0, 1) := by decide +kernel
theorem dX10_blockersOf_38 : decode cX10_blockersOf 38 = .ok (.getfield 52, 3) := by decide +kernel
theorem dX10_blockersOf_41 : decode cX10_blockersOf 41 = .ok (.iload 6, 2) := by decide +kernel
theorem dX10_blockersOf_43 : decode cX10_blockersOf 43 = .ok (.invokevirtual 274, 3) := by decide +kernel
theorem dX10_blockersOf_46 : decode cX10_blockersOf 46 = .ok (.isub, 1) := by decide +kernel
theorem dX10_blockersOf_47 : decode cX10_blockersOf 47 = .ok (.istore 7, 2) := by decide +kernel
theorem dX10_blockersOf_49 : decode cX10_blockersOf 49 = .ok (.aload_n 0, 1) := by decide +kernel
theorem dX10_blockersOf_50 : decode cX10_blockersOf 50 = .ok (.getfield 52, 3) := by decide +kernel
theorem dX10_blockersOf_53 : decode cX10_blockersOf 53 = .ok (.iload_n 1, 1) := by decide +kernel
theorem dX10_blockersOf_54 : decode cX10_blockersOf 54 = .ok (.invokevirtual 275, 3) := by decide +kernel
theorem dX10_blockersOf_57 : decode cX10_blockersOf 57 = .ok (.aload_n 0, 1) := by decide +kernel
theorem dX10_blockersOf_58 : decode cX10_blockersOf 58 = .ok (.getfield 52, 3) := by decide +kernel
theorem dX10_blockersOf_61 : decode cX10_blockersOf 61 = .ok (.iload 6, 2) := by decide +kernel
theorem dX10_blockersOf_63 : decode cX10_blockersOf 63 = .ok (.invokevirtual 275, 3) := by decide +kernel
theorem dX10_blockersOf_66 : decode cX10_blockersOf 66 = .ok (.isub, 1) := by decide +kernel
theorem dX10_blockersOf_67 : decode cX10_blockersOf 67 = .ok (.istore 8, 2) := by decide +kernel
theorem dX10_blockersOf_69 : decode cX10_blockersOf 69 = .ok (.iload 6, 2) := by decide +kernel
theorem dX10_blockersOf_71 : decode cX10_blockersOf 71 = .ok (.iload_n 1, 1) := by decide +kernel
theorem dX10_blockersOf_72 : decode cX10_blockersOf 72 = .ok (.if_icmp .eq 46, 3) := by decide +kernel
theorem dX10_blockersOf_75 : decode cX10_blockersOf 75 = .ok (.aload_n 0, 1) := by decide +kernel
theorem dX10_blockersOf_76 : decode cX10_blockersOf 76 = .ok (.getfield 36, 3) := by decide +kernel
theorem dX10_blockersOf_79 : decode cX10_blockersOf 79 = .ok (.aload_n 0, 1) := by decide +kernel
theorem dX10_blockersOf_80 : decode cX10_blockersOf 80 = .ok (.getfield 52, 3) := by decide +kernel
theorem dX10_blockersOf_83 : decode cX10_blockersOf 83 = .ok (.iload 6, 2) := by decide +kernel
theorem dX10_blockersOf_85 : decode cX10_blockersOf 85 = .ok (.invokevirtual 261, 3) := by decide +kernel
theorem dX10_blockersOf_88 : decode cX10_blockersOf 88 = .ok (.aload_n 0, 1) := by decide +kernel
theorem dX10_blockersOf_89 : decode cX10_blockersOf 89 = .ok (.getfield 52, 3) := by decide +kernel
theorem dX10_blockersOf_92 : decode cX10_blockersOf 92 = .ok (.iload_n 1, 1) := by decide +kernel
theorem dX10_blockersOf_93 : decode cX10_blockersOf 93 = .ok (.invokevirtual 261, 3) := by decide +kernel
theorem dX10_blockersOf_96 : decode cX10_blockersOf 96 = .ok (.iload 7, 2) := by decide +kernel
theorem dX10_blockersOf_98 : decode cX10_blockersOf 98 = .ok (.iload 8, 2) := by decide +kernel
theorem dX10_blockersOf_100 : decode cX10_blockersOf 100 = .ok (.iload_n 3, 1) := by decide +kernel
theorem dX10_blockersOf_101 : decode cX10_blockersOf 101 = .ok (.iload 4, 2) := by decide +kernel
theorem dX10_blockersOf_103 : decode cX10_blockersOf 103 = .ok (.invokevirtual 205, 3) := by decide +kernel
theorem dX10_blockersOf_106 : decode cX10_blockersOf 106 = .ok (.ifCond .eq 12, 3) := by decide +kernel
theorem dX10_blockersOf_109 : decode cX10_blockersOf 109 = .ok (.iload 5, 2) := by decide +kernel
theorem dX10_blockersOf_111 : decode cX10_blockersOf 111 = .ok (.iconst 1, 1) := by decide +kernel
theorem dX10_blockersOf_112 : decode cX10_blockersOf 112 = .ok (.iload 6, 2) := by decide +kernel
theorem dX10_blockersOf_114 : decode cX10_blockersOf 114 = .ok (.ishl, 1) := by decide +kernel
theorem dX10_blockersOf_115 : decode cX10_blockersOf 115 = .ok (.ior, 1) := by decide +kernel
theorem dX10_blockersOf_116 : decode cX10_blockersOf 116 = .ok (.istore 5, 2) := by decide +kernel
theorem dX10_blockersOf_118 : decode cX10_blockersOf 118 = .ok (.iinc 6 1, 3) := by decide +kernel
theorem dX10_blockersOf_121 : decode cX10_blockersOf 121 = .ok (.goto (-104), 3) := by decide +kernel
theorem dX10_blockersOf_124 : decode cX10_blockersOf 124 = .ok (.iload 5, 2) := by decide +kernel
theorem dX10_blockersOf_126 : decode cX10_blockersOf 126 = .ok (.ireturn, 1) := by decide +kernel
abbrev rmX10_blockersOf : Room := { frames := 5, cells := 0, slots := 0, locals := 200 }
abbrev sX10_blockersOf (E : EV) : List AV → AH → (Option AV → AH → Prop) → Prop := Spec E yX10_blockersOf cX10_blockersOf 9 (some .int) rmX10_blockersOf
theorem mX10_blockersOf : Mt yX10_blockersOf cX10_blockersOf 9 (some .int) 2 := ⟨k902, k1, by decide +kernel⟩
theorem vX10_blockersOf : MtV yX10_blockersOf 10 := ⟨k901, kp25, by decide, (RX10, TX10, 12), rfl, rfl⟩
def PX10_blockersOf_17 (E : EV) (post : Option AV → AH → Prop) (J17 : AH → Option Nat → Int32 → Int32 → Int32 → Int32 → Int32 → Prop) (h : AH) (l0 : Option Nat) (l1 : Int32) (l3 : Int32) (l4 : Int32) (l5 : Int32) (l6 : Int32) : Prop :=
  rdP h l0 10 5 fun x1 => rdI h x1 8 5 fun x2 => (x2 ≤ l6 → post (some (aI l5)) h) ∧ (¬ x2 ≤ l6 → rdP h l0 10 5 fun x3 => CV (sX8_x E) x3 8 [aI l1] h (kI fun x4 h5 => rdP h5 l0 10 5 fun x6 => CV (sX8_x E) x6 8 [aI l6] h5 (kI fun x7 h8 => ∀ v9, v9 = (x4 - x7) → rdP h8 l0 10 5 fun x10 => CV (sX8_y E) x10 8 [aI l1] h8 (kI fun x11 h12 => rdP h12 l0 10 5 fun x13 => CV (sX8_y E) x13 8 [aI l6] h12 (kI fun x14 h15 => ∀ v16, v16 = (x11 - x14) → (l6 = l1 → J17 h15 l0 l1 l3 l4 l5 (l6 + (1 : Int32))) ∧ (¬ l6 = l1 → rdP h15 l0 10 3 fun x17 => rdP h15 l0 10 5 fun x18 => CV (sX8_shape E) x18 8 [aI l6] h15 (kP fun x19 h20 => rdP h20 l0 10 5 fun x21 => CV (sX8_shape E) x21 8 [aI l1] h20 (kP fun x22 h23 => CV (sX3_isStopped E) x17 3 [aP x19, aP x22, aI v9, aI v16, aI l3, aI l4] h23 (kI fun x24 h25 => (x24 = 0 → J17 h25 l0 l1 l3 l4 l5 (l6 + (1 : Int32))) ∧ (¬ x24 = 0 → ∀ v26, v26 = (l5 ||| ((1 : Int32) <<< (l6 &&& 31))) → J17 h25 l0 l1 l3 l4 v26 (l6 + (1 : Int32))))))))))))
theorem bX10_blockersOf_17 {E : EV} {X : AX} {post : Option AV → AH → Prop} (C : Cb E X cX10_blockersOf RX10 9 rmX10_blockersOf) (D : Cr E X (some .int) rmX10_blockersOf "blockersOf" post) {J17 : AH → Option Nat → Int32 → Int32 → Int32 → Int32 → Int32 → Prop} (g17 : ∀ (h : AH) (l0 : Option Nat) (l1 : Int32) (l3 : Int32) (l4 : Int32) (l5 : Int32) (l6 : Int32), J17 h l0 l1 l3 l4 l5 l6 → Go E X 9 0 0 17 [(0, aP l0), (1, aI l1), (3, aI l3), (4, aI l4), (5, aI l5), (6, aI l6)] [] h) {h : AH} {l0 : Option Nat} {l1 : Int32} {l3 : Int32} {l4 : Int32} {l5 : Int32} {l6 : Int32} (w : PX10_blockersOf_17 E post J17 h l0 l1 l3 l4 l5 l6) : Go E X 9 0 0 17 [(0, aP l0), (1, aI l1), (3, aI l3), (4, aI l4), (5, aI l5), (6, aI l6)] [] h := by
  unfold PX10_blockersOf_17 at w
  refine r_iload C dX10_blockersOf_17 5 rfl ?_
  refine r_aload_n C dX10_blockersOf_19 rfl 0 rfl ?_
  refine r_getP C fcX10 (f := 5) (by decide) rfl k316 dX10_blockersOf_20 (w.mono fun x1 w => ?_)
  refine r_getI C fcX8 (f := 5) (by decide) rfl k261 dX10_blockersOf_23 (w.mono fun x2 w => ?_)
  refine r_icmp_ge C dX10_blockersOf_26 (tgt := 124) rfl (fun hc => ?_) (fun hc => ?_)
  · have w := w.1 hc
    refine r_iload C dX10_blockersOf_124 4 rfl ?_
    exact r_iret C D rfl (Nat.zero_le _) (Nat.zero_le _) dX10_blockersOf_126 w
  · have w := w.2 hc
    refine r_aload_n C dX10_blockersOf_29 rfl 0 rfl ?_
    refine r_getP C fcX10 (f := 5) (by decide) rfl k316 dX10_blockersOf_30 (w.mono fun x3 w => ?_)
    refine r_iload_n C dX10_blockersOf_33 rfl 1 rfl ?_
    refine r_cvI (rm' := rmX8_x) C mX8_x vX8_x k743 [aI l1] [] rfl rfl (Nat.le_of_ble_eq_true rfl) (by decide) ⟨Nat.zero_le _, Nat.zero_le _⟩ 0 0 rfl rfl dX10_blockersOf_34 w (fun x4 h5 w => ?_)
    refine r_aload_n C dX10_blockersOf_37 rfl 0 rfl ?_
    refine r_getP C fcX10 (f := 5) (by decide) rfl k316 dX10_blockersOf_38 (w.mono fun x6 w => ?_)
    refine r_iload C dX10_blockersOf_41 5 rfl ?_
    refine r_cvI (rm' := rmX8_x) C mX8_x vX8_x k743 [aI l6] [aI x4] rfl rfl (Nat.le_of_ble_eq_true rfl) (by decide) ⟨Nat.zero_le _, Nat.zero_le _⟩ 0 0 rfl rfl dX10_blockersOf_43 w (fun x7 h8 w => ?_)
    refine r_isub C dX10_blockersOf_46 ?_
    refine r_istore C dX10_blockersOf_47 (by decide) rfl ?_
    have w := w _ rfl
    skip
    refine r_aload_n C dX10_blockersOf_49 rfl 1 rfl ?_
    refine r_getP C fcX10 (f := 5) (by decide) rfl k316 dX10_blockersOf_50 (w.mono fun x10 w => ?_)
    refine r_iload_n C dX10_blockersOf_53 rfl 2 rfl ?_
    refine r_cvI (rm' := rmX8_y) C mX8_y vX8_y k744 [aI l1] [] rfl rfl (Nat.le_of_ble_eq_true rfl) (by decide) ⟨Nat.zero_le _, Nat.zero_le _⟩ 0 0 rfl rfl dX10_blockersOf_54 w (fun x11 h12 w => ?_)
    refine r_aload_n C dX10_blockersOf_57 rfl 1 rfl ?_
    refine r_getP C fcX10 (f := 5) (by decide) rfl k316 dX10_blockersOf_58 (w.mono fun x13 w => ?_)
    refine r_iload C dX10_blockersOf_61 6 rfl ?_
    refine r_cvI (rm' := rmX8_y) C mX8_y vX8_y k744 [aI l6] [aI x11] rfl rfl (Nat.le_of_ble_eq_true rfl) (by decide) ⟨Nat.zero_le _, Nat.zero_le _⟩ 0 0 rfl rfl dX10_blockersOf_63 w (fun x14 h15 w => ?_)
    refine r_isub C dX10_blockersOf_66 ?_
    refine r_istore C dX10_blockersOf_67 (by decide) rfl ?_
    have w := w _ rfl
    skip
    refine r_iload C dX10_blockersOf_69 7 rfl ?_
    refine r_iload_n C dX10_blockersOf_71 rfl 3 rfl ?_
    refine r_icmp_eq C dX10_blockersOf_72 (tgt := 118) rfl (fun hc => ?_) (fun hc => ?_)
    · have w := w.1 hc
      refine r_iinc C dX10_blockersOf_118 7 rfl (v := 1) rfl (by decide) rfl ?_
      refine r_goto C dX10_blockersOf_121 (tgt := 17) rfl ?_
      exact r_sub [3, 4, 5, 6, 7, 0] rfl (g17 h15 l0 l1 l3 l4 l5 (l6 + (1 : Int32)) w)
    · have w := w.2 hc
      refine r_aload_n C dX10_blockersOf_75 rfl 2 rfl ?_
      refine r_getP C fcX10 (f := 3) (by decide) rfl k314 dX10_blockersOf_76 (w.mono fun x17 w => ?_)
      refine r_aload_n C dX10_blockersOf_79 rfl 2 rfl ?_
      refine r_getP C fcX10 (f := 5) (by decide) rfl k316 dX10_blockersOf_80 (w.mono fun x18 w => ?_)
      refine r_iload C dX10_blockersOf_83 7 rfl ?_
      refine r_cvP (rm' := rmX8_shape) C mX8_shape vX8_shape k725 [aI l6] [aP x17] rfl rfl (Nat.le_of_ble_eq_true rfl) (by decide) ⟨Nat.zero_le _, Nat.zero_le _⟩ 0 0 rfl rfl dX10_blockersOf_85 w (fun x19 h20 w => ?_)
      refine r_aload_n C dX10_blockersOf_88 rfl 2 rfl ?_
      refine r_getP C fcX10 (f := 5) (by decide) rfl k316 dX10_blockersOf_89 (w.mono fun x21 w => ?_)
      refine r_iload_n C dX10_blockersOf_92 rfl 3 rfl ?_
      refine r_cvP (rm' := rmX8_shape) C mX8_shape vX8_shape k725 [aI l1] [aP x19, aP x17] rfl rfl (Nat.le_of_ble_eq_true rfl) (by decide) ⟨Nat.zero_le _, Nat.zero_le _⟩ 0 0 rfl rfl dX10_blockersOf_93 w (fun x22 h23 w => ?_)
      refine r_iload C dX10_blockersOf_96 1 rfl ?_
      refine r_iload C dX10_blockersOf_98 0 rfl ?_
      refine r_iload_n C dX10_blockersOf_100 rfl 4 rfl ?_
      refine r_iload C dX10_blockersOf_101 5 rfl ?_
      refine r_cvI (rm' := rmX3_isStopped) C mX3_isStopped vX3_isStopped k704 [aP x19, aP x22, aI (x4 - x7), aI (x11 - x14), aI l3, aI l4] [] rfl rfl (Nat.le_of_ble_eq_true rfl) (by decide) ⟨Nat.zero_le _, Nat.zero_le _⟩ 0 0 rfl rfl dX10_blockersOf_103 w (fun x24 h25 w => ?_)
      refine r_if_eq C dX10_blockersOf_106 (tgt := 118) rfl (fun hc => ?_) (fun hc => ?_)
      · have w := w.1 hc
        refine r_iinc C dX10_blockersOf_118 7 rfl (v := 1) rfl (by decide) rfl ?_
        refine r_goto C dX10_blockersOf_121 (tgt := 17) rfl ?_
        exact r_sub [3, 4, 5, 6, 7, 0] rfl (g17 h25 l0 l1 l3 l4 l5 (l6 + (1 : Int32)) w)
      · have w := w.2 hc
        refine r_iload C dX10_blockersOf_109 6 rfl ?_
        refine r_iconst (v := 1) C dX10_blockersOf_111 rfl ?_
        refine r_iload C dX10_blockersOf_112 7 rfl ?_
        refine r_ishl C dX10_blockersOf_114 ?_
        refine r_ior C dX10_blockersOf_115 ?_
        refine r_istore C dX10_blockersOf_116 (by decide) rfl ?_
        have w := w _ rfl
        skip
        refine r_iinc C dX10_blockersOf_118 7 rfl (v := 1) rfl (by decide) rfl ?_
        refine r_goto C dX10_blockersOf_121 (tgt := 17) rfl ?_
        exact r_sub [4, 5, 6, 7, 1, 0] rfl (g17 h25 l0 l1 l3 l4 (l5 ||| ((1 : Int32) <<< (l6 &&& 31))) (l6 + (1 : Int32)) w)
theorem lpX10_blockersOf_17 {E : EV} {X : AX} {post : Option AV → AH → Prop} (C : Cb E X cX10_blockersOf RX10 9 rmX10_blockersOf) (D : Cr E X (some .int) rmX10_blockersOf "blockersOf" post) (I : Nat → AH → Option Nat → Int32 → Int32 → Int32 → Int32 → Int32 → Prop) (step : ∀ (z : Nat) (h : AH) (l0 : Option Nat) (l1 : Int32) (l3 : Int32) (l4 : Int32) (l5 : Int32) (l6 : Int32), I z h l0 l1 l3 l4 l5 l6 → PX10_blockersOf_17 E post (fun h l0 l1 l3 l4 l5 l6 => ∃ z', z' < z ∧ I z' h l0 l1 l3 l4 l5 l6) h l0 l1 l3 l4 l5 l6) : ∀ (z : Nat) (h : AH) (l0 : Option Nat) (l1 : Int32) (l3 : Int32) (l4 : Int32) (l5 : Int32) (l6 : Int32), I z h l0 l1 l3 l4 l5 l6 → Go E X 9 0 0 17 [(0, aP l0), (1, aI l1), (3, aI l3), (4, aI l4), (5, aI l5), (6, aI l6)] [] h := by
  intro z
  induction z using Nat.strongRecOn with
  | _ z ih =>
    intro h l0 l1 l3 l4 l5 l6 hI
    exact bX10_blockersOf_17 C D (fun h l0 l1 l3 l4 l5 l6 hJ => by obtain ⟨z', hz, hi⟩ := hJ; exact ih z' hz h l0 l1 l3 l4 l5 l6 hi) (step z h l0 l1 l3 l4 l5 l6 hI)
def PX10_blockersOf_0 (E : EV) (post : Option AV → AH → Prop) (J17 : AH → Option Nat → Int32 → Int32 → Int32 → Int32 → Int32 → Prop) (h : AH) (l0 : Option Nat) (l1 : Int32) (l2 : Int32) : Prop :=
  CS (sX10_directionX E) [aI l2] h (kI fun x1 h2 => CS (sX10_directionY E) [aI l2] h2 (kI fun x4 h5 => J17 h5 l0 l1 x1 x4 (0 : Int32) (0 : Int32)))
theorem bX10_blockersOf_0 {E : EV} {X : AX} {post : Option AV → AH → Prop} (C : Cb E X cX10_blockersOf RX10 9 rmX10_blockersOf) (D : Cr E X (some .int) rmX10_blockersOf "blockersOf" post) {J17 : AH → Option Nat → Int32 → Int32 → Int32 → Int32 → Int32 → Prop} (g17 : ∀ (h : AH) (l0 : Option Nat) (l1 : Int32) (l3 : Int32) (l4 : Int32) (l5 : Int32) (l6 : Int32), J17 h l0 l1 l3 l4 l5 l6 → Go E X 9 0 0 17 [(0, aP l0), (1, aI l1), (3, aI l3), (4, aI l4), (5, aI l5), (6, aI l6)] [] h) {h : AH} {l0 : Option Nat} {l1 : Int32} {l2 : Int32} (w : PX10_blockersOf_0 E post J17 h l0 l1 l2) : Go E X 9 0 0 0 [(0, aP l0), (1, aI l1), (2, aI l2)] [] h := by
  unfold PX10_blockersOf_0 at w
  refine r_iload_n C dX10_blockersOf_0 rfl 2 rfl ?_
  refine r_csI (rm' := rmX10_directionX) C mX10_directionX vX10_directionX k603 [aI l2] [] rfl rfl (Nat.le_of_ble_eq_true rfl) (by decide) ⟨Nat.zero_le _, Nat.zero_le _⟩ 0 0 rfl rfl dX10_blockersOf_1 w (fun x1 h2 w => ?_)
  refine r_istore_n C dX10_blockersOf_4 rfl (by decide) rfl ?_
  refine r_iload_n C dX10_blockersOf_5 rfl 3 rfl ?_
  refine r_csI (rm' := rmX10_directionY) C mX10_directionY vX10_directionY k608 [aI l2] [] rfl rfl (Nat.le_of_ble_eq_true rfl) (by decide) ⟨Nat.zero_le _, Nat.zero_le _⟩ 0 0 rfl rfl dX10_blockersOf_6 w (fun x4 h5 w => ?_)
  refine r_istore C dX10_blockersOf_9 (by decide) rfl ?_
  refine r_iconst (v := 0) C dX10_blockersOf_11 rfl ?_
  refine r_istore C dX10_blockersOf_12 (by decide) rfl ?_
  refine r_iconst (v := 0) C dX10_blockersOf_14 rfl ?_
  refine r_istore C dX10_blockersOf_15 (by decide) rfl ?_
  exact r_sub [4, 5, 3, 2, 1, 0] rfl (g17 h5 l0 l1 x1 x4 (0 : Int32) (0 : Int32) w)
theorem eX10_blockersOf {E : EV} {post : Option AV → AH → Prop} {h : AH} {l0 : Option Nat} {l1 : Int32} {l2 : Int32} {J17 : AH → Option Nat → Int32 → Int32 → Int32 → Int32 → Int32 → Prop} (g17 : ∀ X : AX, Cb E X cX10_blockersOf RX10 9 rmX10_blockersOf → Cr E X (some .int) rmX10_blockersOf "blockersOf" post → ∀ (h : AH) (l0 : Option Nat) (l1 : Int32) (l3 : Int32) (l4 : Int32) (l5 : Int32) (l6 : Int32), J17 h l0 l1 l3 l4 l5 l6 → Go E X 9 0 0 17 [(0, aP l0), (1, aI l1), (3, aI l3), (4, aI l4), (5, aI l5), (6, aI l6)] [] h) (w : PX10_blockersOf_0 E post J17 h l0 l1 l2) : sX10_blockersOf E [aP l0, aI l1, aI l2] h post := Spec.of RX10 rfl rfl (Nat.le_of_ble_eq_true rfl) fun X C D => bX10_blockersOf_0 C D (g17 X C D) w
theorem dX10_itemSide_0 : decode cX10_itemSide 0 = .ok (.aload_n 0, 1) := by decide +kernel
theorem dX10_itemSide_1 : decode cX10_itemSide 1 = .ok (.getfield 52, 3) := by decide +kernel
theorem dX10_itemSide_4 : decode cX10_itemSide 4 = .ok (.iload_n 1, 1) := by decide +kernel
theorem dX10_itemSide_5 : decode cX10_itemSide 5 = .ok (.invokevirtual 261, 3) := by decide +kernel
theorem dX10_itemSide_8 : decode cX10_itemSide 8 = .ok (.astore_n 3, 1) := by decide +kernel
theorem dX10_itemSide_9 : decode cX10_itemSide 9 = .ok (.iload_n 2, 1) := by decide +kernel
theorem dX10_itemSide_10 : decode cX10_itemSide 10 = .ok (.tableswitch 68 0 2 #[26, 40, 54], 26) := by decide +kernel
theorem dX10_itemSide_36 : decode cX10_itemSide 36 = .ok (.aload_n 0, 1) := by decide +kernel
theorem dX10_itemSide_37 : decode cX10_itemSide 37 = .ok (.getfield 52, 3) := by decide +kernel
theorem dX10_itemSide_40 : decode cX10_itemSide 40 = .ok (.iload_n 1, 1) := by decide +kernel
theorem dX10_itemSide_41 : decode cX10_itemSide 41 = .ok (.invokevirtual 274, 3) := by decide +kernel
theorem dX10_itemSide_44 : decode cX10_itemSide 44 = .ok (.aload_n 3, 1) := by decide +kernel
theorem dX10_itemSide_45 : decode cX10_itemSide 45 = .ok (.getfield 360, 3) := by decide +kernel
theorem dX10_itemSide_48 : decode cX10_itemSide 48 = .ok (.iadd, 1) := by decide +kernel
theorem dX10_itemSide_49 : decode cX10_itemSide 49 = .ok (.ireturn, 1) := by decide +kernel
theorem dX10_itemSide_50 : decode cX10_itemSide 50 = .ok (.aload_n 0, 1) := by decide +kernel
theorem dX10_itemSide_51 : decode cX10_itemSide 51 = .ok (.getfield 52, 3) := by decide +kernel
theorem dX10_itemSide_54 : decode cX10_itemSide 54 = .ok (.iload_n 1, 1) := by decide +kernel
theorem dX10_itemSide_55 : decode cX10_itemSide 55 = .ok (.invokevirtual 275, 3) := by decide +kernel
theorem dX10_itemSide_58 : decode cX10_itemSide 58 = .ok (.aload_n 3, 1) := by decide +kernel
theorem dX10_itemSide_59 : decode cX10_itemSide 59 = .ok (.getfield 363, 3) := by decide +kernel
theorem dX10_itemSide_62 : decode cX10_itemSide 62 = .ok (.iadd, 1) := by decide +kernel
theorem dX10_itemSide_63 : decode cX10_itemSide 63 = .ok (.ireturn, 1) := by decide +kernel
theorem dX10_itemSide_64 : decode cX10_itemSide 64 = .ok (.aload_n 0, 1) := by decide +kernel
theorem dX10_itemSide_65 : decode cX10_itemSide 65 = .ok (.getfield 52, 3) := by decide +kernel
theorem dX10_itemSide_68 : decode cX10_itemSide 68 = .ok (.iload_n 1, 1) := by decide +kernel
theorem dX10_itemSide_69 : decode cX10_itemSide 69 = .ok (.invokevirtual 274, 3) := by decide +kernel
theorem dX10_itemSide_72 : decode cX10_itemSide 72 = .ok (.aload_n 3, 1) := by decide +kernel
theorem dX10_itemSide_73 : decode cX10_itemSide 73 = .ok (.getfield 350, 3) := by decide +kernel
theorem dX10_itemSide_76 : decode cX10_itemSide 76 = .ok (.iadd, 1) := by decide +kernel
theorem dX10_itemSide_77 : decode cX10_itemSide 77 = .ok (.ireturn, 1) := by decide +kernel
theorem dX10_itemSide_78 : decode cX10_itemSide 78 = .ok (.aload_n 0, 1) := by decide +kernel
theorem dX10_itemSide_79 : decode cX10_itemSide 79 = .ok (.getfield 52, 3) := by decide +kernel
theorem dX10_itemSide_82 : decode cX10_itemSide 82 = .ok (.iload_n 1, 1) := by decide +kernel
theorem dX10_itemSide_83 : decode cX10_itemSide 83 = .ok (.invokevirtual 275, 3) := by decide +kernel
theorem dX10_itemSide_86 : decode cX10_itemSide 86 = .ok (.aload_n 3, 1) := by decide +kernel
theorem dX10_itemSide_87 : decode cX10_itemSide 87 = .ok (.getfield 347, 3) := by decide +kernel
theorem dX10_itemSide_90 : decode cX10_itemSide 90 = .ok (.iadd, 1) := by decide +kernel
theorem dX10_itemSide_91 : decode cX10_itemSide 91 = .ok (.ireturn, 1) := by decide +kernel
abbrev rmX10_itemSide : Room := { frames := 1, cells := 0, slots := 0, locals := 40 }
abbrev sX10_itemSide (E : EV) : List AV → AH → (Option AV → AH → Prop) → Prop := Spec E yX10_itemSide cX10_itemSide 4 (some .int) rmX10_itemSide
theorem mX10_itemSide : Mt yX10_itemSide cX10_itemSide 4 (some .int) 2 := ⟨k922, k1, by decide +kernel⟩
theorem vX10_itemSide : MtV yX10_itemSide 10 := ⟨k921, kp27, by decide, (RX10, TX10, 12), rfl, rfl⟩
def PX10_itemSide_0 (E : EV) (post : Option AV → AH → Prop) (h : AH) (l0 : Option Nat) (l1 : Int32) (l2 : Int32) : Prop :=
  rdP h l0 10 5 fun x1 => CV (sX8_shape E) x1 8 [aI l1] h (kP fun x2 h3 => (l2.toInt < 0 ∨ 2 < l2.toInt → rdP h3 l0 10 5 fun x5 => CV (sX8_y E) x5 8 [aI l1] h3 (kI fun x6 h7 => rdI h7 x2 6 8 fun x8 => post (some (aI (x6 + x8))) h7)) ∧ (l2.toInt = 0 → rdP h3 l0 10 5 fun x5 => CV (sX8_x E) x5 8 [aI l1] h3 (kI fun x6 h7 => rdI h7 x2 6 5 fun x8 => post (some (aI (x6 + x8))) h7)) ∧ (l2.toInt = 1 → rdP h3 l0 10 5 fun x5 => CV (sX8_y E) x5 8 [aI l1] h3 (kI fun x6 h7 => rdI h7 x2 6 6 fun x8 => post (some (aI (x6 + x8))) h7)) ∧ (l2.toInt = 2 → rdP h3 l0 10 5 fun x5 => CV (sX8_x E) x5 8 [aI l1] h3 (kI fun x6 h7 => rdI h7 x2 6 7 fun x8 => post (some (aI (x6 + x8))) h7)))
theorem bX10_itemSide_0 {E : EV} {X : AX} {post : Option AV → AH → Prop} (C : Cb E X cX10_itemSide RX10 4 rmX10_itemSide) (D : Cr E X (some .int) rmX10_itemSide "itemSide" post) {h : AH} {l0 : Option Nat} {l1 : Int32} {l2 : Int32} (w : PX10_itemSide_0 E post h l0 l1 l2) : Go E X 4 0 0 0 [(0, aP l0), (1, aI l1), (2, aI l2)] [] h := by
  unfold PX10_itemSide_0 at w
  refine r_aload_n C dX10_itemSide_0 rfl 0 rfl ?_
  refine r_getP C fcX10 (f := 5) (by decide) rfl k316 dX10_itemSide_1 (w.mono fun x1 w => ?_)
  refine r_iload_n C dX10_itemSide_4 rfl 1 rfl ?_
  refine r_cvP (rm' := rmX8_shape) C mX8_shape vX8_shape k725 [aI l1] [] rfl rfl (Nat.le_of_ble_eq_true rfl) (by decide) ⟨Nat.zero_le _, Nat.zero_le _⟩ 0 0 rfl rfl dX10_itemSide_5 w (fun x2 h3 w => ?_)
  refine r_astore_n C dX10_itemSide_8 rfl (by decide) rfl ?_
  refine r_iload_n C dX10_itemSide_9 rfl 3 rfl ?_
  by_cases ho : l2.toInt < 0 ∨ 2 < l2.toInt
  · refine r_tout C dX10_itemSide_10 ho (tgt := 78) rfl ?_
    have w := w.1 ho
    refine r_aload_n C dX10_itemSide_78 rfl 1 rfl ?_
    refine r_getP C fcX10 (f := 5) (by decide) rfl k316 dX10_itemSide_79 (w.mono fun x5 w => ?_)
    refine r_iload_n C dX10_itemSide_82 rfl 2 rfl ?_
    refine r_cvI (rm' := rmX8_y) C mX8_y vX8_y k744 [aI l1] [] rfl rfl (Nat.le_of_ble_eq_true rfl) (by decide) ⟨Nat.zero_le _, Nat.zero_le _⟩ 0 0 rfl rfl dX10_itemSide_83 w (fun x6 h7 w => ?_)
    refine r_aload_n C dX10_itemSide_86 rfl 0 rfl ?_
    refine r_getI C fcX6 (f := 8) (by decide) rfl k47 dX10_itemSide_87 (w.mono fun x8 w => ?_)
    refine r_iadd C dX10_itemSide_90 ?_
    exact r_iret C D rfl (Nat.zero_le _) (Nat.zero_le _) dX10_itemSide_91 w
  have w := w.2
  by_cases ho0 : l2.toInt = 0
  · refine r_tin C dX10_itemSide_10 (by omega) (by omega) (off := 26) (by rw [ho0]; rfl) (tgt := 36) rfl ?_
    have w := w.1 ho0
    refine r_aload_n C dX10_itemSide_36 rfl 1 rfl ?_
    refine r_getP C fcX10 (f := 5) (by decide) rfl k316 dX10_itemSide_37 (w.mono fun x5 w => ?_)
    refine r_iload_n C dX10_itemSide_40 rfl 2 rfl ?_
    refine r_cvI (rm' := rmX8_x) C mX8_x vX8_x k743 [aI l1] [] rfl rfl (Nat.le_of_ble_eq_true rfl) (by decide) ⟨Nat.zero_le _, Nat.zero_le _⟩ 0 0 rfl rfl dX10_itemSide_41 w (fun x6 h7 w => ?_)
    refine r_aload_n C dX10_itemSide_44 rfl 0 rfl ?_
    refine r_getI C fcX6 (f := 5) (by decide) rfl k38 dX10_itemSide_45 (w.mono fun x8 w => ?_)
    refine r_iadd C dX10_itemSide_48 ?_
    exact r_iret C D rfl (Nat.zero_le _) (Nat.zero_le _) dX10_itemSide_49 w
  have w := w.2
  by_cases ho1 : l2.toInt = 1
  · refine r_tin C dX10_itemSide_10 (by omega) (by omega) (off := 40) (by rw [ho1]; rfl) (tgt := 50) rfl ?_
    have w := w.1 ho1
    refine r_aload_n C dX10_itemSide_50 rfl 1 rfl ?_
    refine r_getP C fcX10 (f := 5) (by decide) rfl k316 dX10_itemSide_51 (w.mono fun x5 w => ?_)
    refine r_iload_n C dX10_itemSide_54 rfl 2 rfl ?_
    refine r_cvI (rm' := rmX8_y) C mX8_y vX8_y k744 [aI l1] [] rfl rfl (Nat.le_of_ble_eq_true rfl) (by decide) ⟨Nat.zero_le _, Nat.zero_le _⟩ 0 0 rfl rfl dX10_itemSide_55 w (fun x6 h7 w => ?_)
    refine r_aload_n C dX10_itemSide_58 rfl 0 rfl ?_
    refine r_getI C fcX6 (f := 6) (by decide) rfl k41 dX10_itemSide_59 (w.mono fun x8 w => ?_)
    refine r_iadd C dX10_itemSide_62 ?_
    exact r_iret C D rfl (Nat.zero_le _) (Nat.zero_le _) dX10_itemSide_63 w
  have w := w.2
  have ho2 : l2.toInt = 2 := by omega
  refine r_tin C dX10_itemSide_10 (by omega) (by omega) (off := 54) (by rw [ho2]; rfl) (tgt := 64) rfl ?_
  have w := w ho2
  refine r_aload_n C dX10_itemSide_64 rfl 1 rfl ?_
  refine r_getP C fcX10 (f := 5) (by decide) rfl k316 dX10_itemSide_65 (w.mono fun x5 w => ?_)
  refine r_iload_n C dX10_itemSide_68 rfl 2 rfl ?_
  refine r_cvI (rm' := rmX8_x) C mX8_x vX8_x k743 [aI l1] [] rfl rfl (Nat.le_of_ble_eq_true rfl) (by decide) ⟨Nat.zero_le _, Nat.zero_le _⟩ 0 0 rfl rfl dX10_itemSide_69 w (fun x6 h7 w => ?_)
  refine r_aload_n C dX10_itemSide_72 rfl 0 rfl ?_
  refine r_getI C fcX6 (f := 7) (by decide) rfl k44 dX10_itemSide_73 (w.mono fun x8 w => ?_)
  refine r_iadd C dX10_itemSide_76 ?_
  exact r_iret C D rfl (Nat.zero_le _) (Nat.zero_le _) dX10_itemSide_77 w
theorem eX10_itemSide {E : EV} {post : Option AV → AH → Prop} {h : AH} {l0 : Option Nat} {l1 : Int32} {l2 : Int32} (w : PX10_itemSide_0 E post h l0 l1 l2) : sX10_itemSide E [aP l0, aI l1, aI l2] h post := Spec.of RX10 rfl rfl (Nat.le_of_ble_eq_true rfl) fun X C D => bX10_itemSide_0 C D w
theorem dX10_boundingBox_0 : decode cX10_boundingBox 0 = .ok (.iload_n 1, 1) := by decide +kernel
theorem dX10_boundingBox_1 : decode cX10_boundingBox 1 = .ok (.ifCond .lt 8, 3) := by decide +kernel
theorem dX10_boundingBox_4 : decode cX10_boundingBox 4 = .ok (.iload_n 1, 1) := by decide +kernel
theorem dX10_boundingBox_5 : decode cX10_boundingBox 5 = .ok (.iconst 3, 1) := by decide +kernel
theorem dX10_boundingBox_6 : decode cX10_boundingBox 6 = .ok (.if_icmp .le 6, 3) := by decide +kernel
theorem dX10_boundingBox_9 : decode cX10_boundingBox 9 = .ok (.ldc 88, 2) := by decide +kernel
theorem dX10_boundingBox_11 : decode cX10_boundingBox 11 = .ok (.ireturn, 1) := by decide +kernel
theorem dX10_boundingBox_12 : decode cX10_boundingBox 12 = .ok (.aload_n 0, 1) := by decide +kernel
theorem dX10_boundingBox_13 : decode cX10_boundingBox 13 = .ok (.getfield 52, 3) := by decide +kernel
theorem dX10_boundingBox_16 : decode cX10_boundingBox 16 = .ok (.getfield 218, 3) := by decide +kernel
theorem dX10_boundingBox_19 : decode cX10_boundingBox 19 = .ok (.ifCond .ne 6, 3) := by decide +kernel
theorem dX10_boundingBox_22 : decode cX10_boundingBox 22 = .ok (.ldc 160, 2) := by decide +kernel
theorem dX10_boundingBox_24 : decode cX10_boundingBox 24 = .ok (.ireturn, 1) := by decide +kernel
theorem dX10_boundingBox_25 : decode cX10_boundingBox 25 = .ok (.aload_n 0, 1) := by decide +kernel
theorem dX10_boundingBox_26 : decode cX10_boundingBox 26 = .ok (.iconst 0, 1) := by decide +kernel
theorem dX10_boundingBox_27 : decode cX10_boundingBox 27 = .ok (.iload_n 1, 1) := by decide +kernel
theorem dX10_boundingBox_28 : decode cX10_boundingBox 28 = .ok (.invokevirtual 307, 3) := by decide +kernel
theorem dX10_boundingBox_31 : decode cX10_boundingBox 31 = .ok (.istore_n 2, 1) := by decide +kernel
theorem dX10_boundingBox_32 : decode cX10_boundingBox 32 = .ok (.iconst 1, 1) := by decide +kernel
theorem dX10_boundingBox_33 : decode cX10_boundingBox 33 = .ok (.istore_n 3, 1) := by decide +kernel
theorem dX10_boundingBox_34 : decode cX10_boundingBox 34 = .ok (.iload_n 3, 1) := by decide +kernel
theorem dX10_boundingBox_35 : decode cX10_boundingBox 35 = .ok (.aload_n 0, 1) := by decide +kernel
theorem dX10_boundingBox_36 : decode cX10_boundingBox 36 = .ok (.getfield 52, 3) := by decide +kernel
theorem dX10_boundingBox_39 : decode cX10_boundingBox 39 = .ok (.getfield 218, 3) := by decide +kernel
theorem dX10_boundingBox_42 : decode cX10_boundingBox 42 = .ok (.if_icmp .ge 38, 3) := by decide +kernel
theorem dX10_boundingBox_45 : decode cX10_boundingBox 45 = .ok (.aload_n 0, 1) := by decide +kernel
theorem dX10_boundingBox_46 : decode cX10_boundingBox 46 = .ok (.iload_n 3, 1) := by decide +kernel
theorem dX10_boundingBox_47 : decode cX10_boundingBox 47 = .ok (.iload_n 1, 1) := by decide +kernel
theorem dX10_boundingBox_48 : decode cX10_boundingBox 48 = .ok (.invokevirtual 307, 3) := by decide +kernel
theorem dX10_boundingBox_51 : decode cX10_boundingBox 51 = .ok (.istore 4, 2) := by decide +kernel
theorem dX10_boundingBox_53 : decode cX10_boundingBox 53 = .ok (.iload_n 1, 1) := by decide +kernel
theorem dX10_boundingBox_54 : decode cX10_boundingBox 54 = .ok (.iconst 2, 1) := by decide +kernel
theorem dX10_boundingBox_55 : decode cX10_boundingBox 55 = .ok (.if_icmp .ge 12, 3) := by decide +kernel
theorem dX10_boundingBox_58 : decode cX10_boundingBox 58 = .ok (.iload_n 2, 1) := by decide +kernel
theorem dX10_boundingBox_59 : decode cX10_boundingBox 59 = .ok (.iload 4, 2) := by decide +kernel
theorem dX10_boundingBox_61 : decode cX10_boundingBox 61 = .ok (.invokestatic 310, 3) := by decide +kernel
theorem dX10_boundingBox_64 : decode cX10_boundingBox 64 = .ok (.goto 9, 3) := by decide +kernel
theorem dX10_boundingBox_67 : decode cX10_boundingBox 67 = .ok (.iload_n 2, 1) := by decide +kernel
theorem dX10_boundingBox_68 : decode cX10_boundingBox 68 = .ok (.iload 4, 2) := by decide +kernel
theorem dX10_boundingBox_70 : decode cX10_boundingBox 70 = .ok (.invokestatic 315, 3) := by decide +kernel
theorem dX10_boundingBox_73 : decode cX10_boundingBox 73 = .ok (.istore_n 2, 1) := by decide +kernel
theorem dX10_boundingBox_74 : decode cX10_boundingBox 74 = .ok (.iinc 3 1, 3) := by decide +kernel
theorem dX10_boundingBox_77 : decode cX10_boundingBox 77 = .ok (.goto (-43), 3) := by decide +kernel
theorem dX10_boundingBox_80 : decode cX10_boundingBox 80 = .ok (.iload_n 2, 1) := by decide +kernel
theorem dX10_boundingBox_81 : decode cX10_boundingBox 81 = .ok (.ireturn, 1) := by decide +kernel
abbrev rmX10_boundingBox : Room := { frames := 2, cells := 0, slots := 0, locals := 80 }
abbrev sX10_boundingBox (E : EV) : List AV → AH → (Option AV → AH → Prop) → Prop := Spec E yX10_boundingBox cX10_boundingBox 5 (some .int) rmX10_boundingBox
theorem mX10_boundingBox : Mt yX10_boundingBox cX10_boundingBox 5 (some .int) 1 := ⟨k918, k1, by decide +kernel⟩
theorem vX10_boundingBox : MtV yX10_boundingBox 10 := ⟨k916, k917, by decide, (RX10, TX10, 12), rfl, rfl⟩
def PX10_boundingBox_34 (E : EV) (post : Option AV → AH → Prop) (J34 : AH → Option Nat → Int32 → Int32 → Int32 → Prop) (h : AH) (l0 : Option Nat) (l1 : Int32) (l2 : Int32) (l3 : Int32) : Prop :=
  rdP h l0 10 5 fun x1 => rdI h x1 8 5 fun x2 => (x2 ≤ l3 → post (some (aI l2)) h) ∧ (¬ x2 ≤ l3 → CV (sX10_itemSide E) l0 10 [aI l3, aI l1] h (kI fun x3 h4 => ((2 : Int32) ≤ l1 → ∀ v6, v6 = (if l2 < x3 then x3 else l2) → J34 h4 l0 l1 v6 (l3 + (1 : Int32))) ∧ (¬ (2 : Int32) ≤ l1 → ∀ v6, v6 = (if x3 < l2 then x3 else l2) → J34 h4 l0 l1 v6 (l3 + (1 : Int32)))))
theorem bX10_boundingBox_34 {E : EV} {X : AX} {post : Option AV → AH → Prop} (C : Cb E X cX10_boundingBox RX10 5 rmX10_boundingBox) (D : Cr E X (some .int) rmX10_boundingBox "boundingBox" post) {J34 : AH → Option Nat → Int32 → Int32 → Int32 → Prop} (g34 : ∀ (h : AH) (l0 : Option Nat) (l1 : Int32) (l2 : Int32) (l3 : Int32), J34 h l0 l1 l2 l3 → Go E X 5 0 0 34 [(0, aP l0), (1, aI l1), (2, aI l2), (3, aI l3)] [] h) {h : AH} {l0 : Option Nat} {l1 : Int32} {l2 : Int32} {l3 : Int32} (w : PX10_boundingBox_34 E post J34 h l0 l1 l2 l3) : Go E X 5 0 0 34 [(0, aP l0), (1, aI l1), (2, aI l2), (3, aI l3)] [] h := by
  unfold PX10_boundingBox_34 at w
  refine r_iload_n C dX10_boundingBox_34 rfl 3 rfl ?_
  refine r_aload_n C dX10_boundingBox_35 rfl 0 rfl ?_
  refine r_getP C fcX10 (f := 5) (by decide) rfl k316 dX10_boundingBox_36 (w.mono fun x1 w => ?_)
  refine r_getI C fcX8 (f := 5) (by decide) rfl k261 dX10_boundingBox_39 (w.mono fun x2 w => ?_)
  refine r_icmp_ge C dX10_boundingBox_42 (tgt := 80) rfl (fun hc => ?_) (fun hc => ?_)
  · have w := w.1 hc
    refine r_iload_n C dX10_boundingBox_80 rfl 2 rfl ?_
    exact r_iret C D rfl (Nat.zero_le _) (Nat.zero_le _) dX10_boundingBox_81 w
  · have w := w.2 hc
    refine r_aload_n C dX10_boundingBox_45 rfl 0 rfl ?_
    refine r_iload_n C dX10_boundingBox_46 rfl 3 rfl ?_
    refine r_iload_n C dX10_boundingBox_47 rfl 1 rfl ?_
    refine r_cvI (rm' := rmX10_itemSide) C mX10_itemSide vX10_itemSide k919 [aI l3, aI l1] [] rfl rfl (Nat.le_of_ble_eq_true rfl) (by decide) ⟨Nat.zero_le _, Nat.zero_le _⟩ 0 0 rfl rfl dX10_boundingBox_48 w (fun x3 h4 w => ?_)
    refine r_istore C dX10_boundingBox_51 (by decide) rfl ?_
    refine r_iload_n C dX10_boundingBox_53 rfl 2 rfl ?_
    refine r_iconst (v := 2) C dX10_boundingBox_54 rfl ?_
    refine r_icmp_ge C dX10_boundingBox_55 (tgt := 67) rfl (fun hc => ?_) (fun hc => ?_)
    · have w := w.1 hc
      refine r_iload_n C dX10_boundingBox_67 rfl 3 rfl ?_
      refine r_iload C dX10_boundingBox_68 0 rfl ?_
      refine r_mmax C k924 k452 k13 k453 (by decide) (Nat.le_of_ble_eq_true rfl) (Nat.zero_le _) (Nat.zero_le _) dX10_boundingBox_70 ?_
      have w := w _ rfl
      generalize (if l2 < x3 then x3 else l2) = v6 at w ⊢
      refine r_istore_n C dX10_boundingBox_73 rfl (by decide) rfl ?_
      refine r_iinc C dX10_boundingBox_74 4 rfl (v := 1) rfl (by decide) rfl ?_
      refine r_goto C dX10_boundingBox_77 (tgt := 34) rfl ?_
      exact r_sub [3, 4, 1, 0] rfl (g34 h4 l0 l1 v6 (l3 + (1 : Int32)) w)
    · have w := w.2 hc
      refine r_iload_n C dX10_boundingBox_58 rfl 3 rfl ?_
      refine r_iload C dX10_boundingBox_59 0 rfl ?_
      refine r_mmin C k923 k449 k13 k450 (by decide) (Nat.le_of_ble_eq_true rfl) (Nat.zero_le _) (Nat.zero_le _) dX10_boundingBox_61 ?_
      have w := w _ rfl
      generalize (if x3 < l2 then x3 else l2) = v6 at w ⊢
      refine r_goto C dX10_boundingBox_64 (tgt := 73) rfl ?_
      refine r_istore_n C dX10_boundingBox_73 rfl (by decide) rfl ?_
      refine r_iinc C dX10_boundingBox_74 4 rfl (v := 1) rfl (by decide) rfl ?_
      refine r_goto C dX10_boundingBox_77 (tgt := 34) rfl ?_
      exact r_sub [3, 4, 1, 0] rfl (g34 h4 l0 l1 v6 (l3 + (1 : Int32)) w)
theorem lpX10_boundingBox_34 {E : EV} {X : AX} {post : Option AV → AH → Prop} (C : Cb E X cX10_boundingBox RX10 5 rmX10_boundingBox) (D : Cr E X (some .int) rmX10_boundingBox "boundingBox" post) (I : Nat → AH → Option Nat → Int32 → Int32 → Int32 → Prop) (step : ∀ (z : Nat) (h : AH) (l0 : Option Nat) (l1 : Int32) (l2 : Int32) (l3 : Int32), I z h l0 l1 l2 l3 → PX10_boundingBox_34 E post (fun h l0 l1 l2 l3 => ∃ z', z' < z ∧ I z' h l0 l1 l2 l3) h l0 l1 l2 l3) : ∀ (z : Nat) (h : AH) (l0 : Option Nat) (l1 : Int32) (l2 : Int32) (l3 : Int32), I z h l0 l1 l2 l3 → Go E X 5 0 0 34 [(0, aP l0), (1, aI l1), (2, aI l2), (3, aI l3)] [] h := by
  intro z
  induction z using Nat.strongRecOn with
  | _ z ih =>
    intro h l0 l1 l2 l3 hI
    exact bX10_boundingBox_34 C D (fun h l0 l1 l2 l3 hJ => by obtain ⟨z', hz, hi⟩ := hJ; exact ih z' hz h l0 l1 l2 l3 hi) (step z h l0 l1 l2 l3 hI)
def PX10_boundingBox_0 (E : EV) (post : Option AV → AH → Prop) (J34 : AH → Option Nat → Int32 → Int32 → Int32 → Prop) (h : AH) (l0 : Option Nat) (l1 : Int32) : Prop :=
  (l1 < 0 → post (some (aI (-1000001 : Int32))) h) ∧ (¬ l1 < 0 → (l1 ≤ (3 : Int32) → rdP h l0 10 5 fun x1 => rdI h x1 8 5 fun x2 => (¬ x2 = 0 → CV (sX10_itemSide E) l0 10 [aI (0 : Int32), aI l1] h (kI fun x3 h4 => J34 h4 l0 l1 x3 (1 : Int32))) ∧ (x2 = 0 → post (some (aI (-1000009 : Int32))) h)) ∧ (¬ l1 ≤ (3 : Int32) → post (some (aI (-1000001 : Int32))) h))
theorem bX10_boundingBox_0 {E : EV} {X : AX} {post : Option AV → AH → Prop} (C : Cb E X cX10_boundingBox RX10 5 rmX10_boundingBox) (D : Cr E X (some .int) rmX10_boundingBox "boundingBox" post) {J34 : AH → Option Nat → Int32 → Int32 → Int32 → Prop} (g34 : ∀ (h : AH) (l0 : Option Nat) (l1 : Int32) (l2 : Int32) (l3 : Int32), J34 h l0 l1 l2 l3 → Go E X 5 0 0 34 [(0, aP l0), (1, aI l1), (2, aI l2), (3, aI l3)] [] h) {h : AH} {l0 : Option Nat} {l1 : Int32} (w : PX10_boundingBox_0 E post J34 h l0 l1) : Go E X 5 0 0 0 [(0, aP l0), (1, aI l1)] [] h := by
  unfold PX10_boundingBox_0 at w
  refine r_iload_n C dX10_boundingBox_0 rfl 1 rfl ?_
  refine r_if_lt C dX10_boundingBox_1 (tgt := 9) rfl (fun hc => ?_) (fun hc => ?_)
  · have w := w.1 hc
    refine r_ldc (v := -1000001) C dX10_boundingBox_9 k352 ?_
    exact r_iret C D rfl (Nat.zero_le _) (Nat.zero_le _) dX10_boundingBox_11 w
  · have w := w.2 hc
    refine r_iload_n C dX10_boundingBox_4 rfl 1 rfl ?_
    refine r_iconst (v := 3) C dX10_boundingBox_5 rfl ?_
    refine r_icmp_le C dX10_boundingBox_6 (tgt := 12) rfl (fun hc => ?_) (fun hc => ?_)
    · have w := w.1 hc
      refine r_aload_n C dX10_boundingBox_12 rfl 0 rfl ?_
      refine r_getP C fcX10 (f := 5) (by decide) rfl k316 dX10_boundingBox_13 (w.mono fun x1 w => ?_)
      refine r_getI C fcX8 (f := 5) (by decide) rfl k261 dX10_boundingBox_16 (w.mono fun x2 w => ?_)
      refine r_if_ne C dX10_boundingBox_19 (tgt := 25) rfl (fun hc => ?_) (fun hc => ?_)
      · have w := w.1 hc
        refine r_aload_n C dX10_boundingBox_25 rfl 0 rfl ?_
        refine r_iconst (v := 0) C dX10_boundingBox_26 rfl ?_
        refine r_iload_n C dX10_boundingBox_27 rfl 1 rfl ?_
        refine r_cvI (rm' := rmX10_itemSide) C mX10_itemSide vX10_itemSide k919 [aI (0 : Int32), aI l1] [] rfl rfl (Nat.le_of_ble_eq_true rfl) (by decide) ⟨Nat.zero_le _, Nat.zero_le _⟩ 0 0 rfl rfl dX10_boundingBox_28 w (fun x3 h4 w => ?_)
        refine r_istore_n C dX10_boundingBox_31 rfl (by decide) rfl ?_
        refine r_iconst (v := 1) C dX10_boundingBox_32 rfl ?_
        refine r_istore_n C dX10_boundingBox_33 rfl (by decide) rfl ?_
        exact r_sub [2, 3, 1, 0] rfl (g34 h4 l0 l1 x3 (1 : Int32) w)
      · have w := w.2 hc
        refine r_ldc (v := -1000009) C dX10_boundingBox_22 k593 ?_
        exact r_iret C D rfl (Nat.zero_le _) (Nat.zero_le _) dX10_boundingBox_24 w
    · have w := w.2 hc
      refine r_ldc (v := -1000001) C dX10_boundingBox_9 k352 ?_
      exact r_iret C D rfl (Nat.zero_le _) (Nat.zero_le _) dX10_boundingBox_11 w
theorem eX10_boundingBox {E : EV} {post : Option AV → AH → Prop} {h : AH} {l0 : Option Nat} {l1 : Int32} {J34 : AH → Option Nat → Int32 → Int32 → Int32 → Prop} (g34 : ∀ X : AX, Cb E X cX10_boundingBox RX10 5 rmX10_boundingBox → Cr E X (some .int) rmX10_boundingBox "boundingBox" post → ∀ (h : AH) (l0 : Option Nat) (l1 : Int32) (l2 : Int32) (l3 : Int32), J34 h l0 l1 l2 l3 → Go E X 5 0 0 34 [(0, aP l0), (1, aI l1), (2, aI l2), (3, aI l3)] [] h) (w : PX10_boundingBox_0 E post J34 h l0 l1) : sX10_boundingBox E [aP l0, aI l1] h post := Spec.of RX10 rfl rfl (Nat.le_of_ble_eq_true rfl) fun X C D => bX10_boundingBox_0 C D (g34 X C D) w
theorem dX10_isSlot_0 : decode cX10_isSlot 0 = .ok (.iload_n 0, 1) := by decide +kernel
theorem dX10_isSlot_1 : decode cX10_isSlot 1 = .ok (.ifCond .lt 12, 3) := by decide +kernel
theorem dX10_isSlot_4 : decode cX10_isSlot 4 = .ok (.iload_n 0, 1) := by decide +kernel
theorem dX10_isSlot_5 : decode cX10_isSlot 5 = .ok (.iconst 4, 1) := by decide +kernel
theorem dX10_isSlot_6 : decode cX10_isSlot 6 = .ok (.if_icmp .ge 7, 3) := by decide +kernel
theorem dX10_isSlot_9 : decode cX10_isSlot 9 = .ok (.iconst 1, 1) := by decide +kernel
theorem dX10_isSlot_10 : decode cX10_isSlot 10 = .ok (.goto 4, 3) := by decide +kernel
theorem dX10_isSlot_13 : decode cX10_isSlot 13 = .ok (.iconst 0, 1) := by decide +kernel
theorem dX10_isSlot_14 : decode cX10_isSlot 14 = .ok (.ireturn, 1) := by decide +kernel
abbrev rmX10_isSlot : Room := { frames := 0, cells := 0, slots := 0, locals := 0 }
abbrev sX10_isSlot (E : EV) : List AV → AH → (Option AV → AH → Prop) → Prop := Spec E yX10_isSlot cX10_isSlot 1 (some .boolean) rmX10_isSlot
theorem mX10_isSlot : Mt yX10_isSlot cX10_isSlot 1 (some .boolean) 1 := ⟨k368, k1, by decide +kernel⟩
theorem vX10_isSlot : MtS yX10_isSlot := k367
def PX10_isSlot_0 (E : EV) (post : Option AV → AH → Prop) (h : AH) (l0 : Int32) : Prop :=
  (l0 < 0 → post (some (aI (0 : Int32))) h) ∧ (¬ l0 < 0 → ((4 : Int32) ≤ l0 → post (some (aI (0 : Int32))) h) ∧ (¬ (4 : Int32) ≤ l0 → post (some (aI (1 : Int32))) h))
theorem bX10_isSlot_0 {E : EV} {X : AX} {post : Option AV → AH → Prop} (C : Cb E X cX10_isSlot RX10 1 rmX10_isSlot) (D : Cr E X (some .boolean) rmX10_isSlot "isSlot" post) {h : AH} {l0 : Int32} (w : PX10_isSlot_0 E post h l0) : Go E X 1 0 0 0 [(0, aI l0)] [] h := by
  unfold PX10_isSlot_0 at w
  refine r_iload_n C dX10_isSlot_0 rfl 0 rfl ?_
  refine r_if_lt C dX10_isSlot_1 (tgt := 13) rfl (fun hc => ?_) (fun hc => ?_)
  · have w := w.1 hc
    refine r_iconst (v := 0) C dX10_isSlot_13 rfl ?_
    exact r_zret C D rfl (Or.inl rfl) (Nat.zero_le _) (Nat.zero_le _) dX10_isSlot_14 w
  · have w := w.2 hc
    refine r_iload_n C dX10_isSlot_4 rfl 0 rfl ?_
    refine r_iconst (v := 4) C dX10_isSlot_5 rfl ?_
    refine r_icmp_ge C dX10_isSlot_6 (tgt := 13) rfl (fun hc => ?_) (fun hc => ?_)
    · have w := w.1 hc
      refine r_iconst (v := 0) C dX10_isSlot_13 rfl ?_
      exact r_zret C D rfl (Or.inl rfl) (Nat.zero_le _) (Nat.zero_le _) dX10_isSlot_14 w
    · have w := w.2 hc
      refine r_iconst (v := 1) C dX10_isSlot_9 rfl ?_
      refine r_goto C dX10_isSlot_10 (tgt := 14) rfl ?_
      exact r_zret C D rfl (Or.inr rfl) (Nat.zero_le _) (Nat.zero_le _) dX10_isSlot_14 w
theorem eX10_isSlot {E : EV} {post : Option AV → AH → Prop} {h : AH} {l0 : Int32} (w : PX10_isSlot_0 E post h l0) : sX10_isSlot E [aI l0] h post := Spec.of RX10 rfl rfl (Nat.le_of_ble_eq_true rfl) fun X C D => bX10_isSlot_0 C D w
theorem dX10_clearShape_0 : decode cX10_clearShape 0 = .ok (.iload_n 1, 1) := by decide +kernel
theorem dX10_clearShape_1 : decode cX10_clearShape 1 = .ok (.invokestatic 98, 3) := by decide +kernel
theorem dX10_clearShape_4 : decode cX10_clearShape 4 = .ok (.ifCond .ne 6, 3) := by decide +kernel
theorem dX10_clearShape_7 : decode cX10_clearShape 7 = .ok (.ldc 88, 2) := by decide +kernel
theorem dX10_clearShape_9 : decode cX10_clearShape 9 = .ok (.ireturn, 1) := by decide +kernel
theorem dX10_clearShape_10 : decode cX10_clearShape 10 = .ok (.aload_n 0, 1) := by decide +kernel
theorem dX10_clearShape_11 : decode cX10_clearShape 11 = .ok (.getfield 52, 3) := by decide +kernel
theorem dX10_clearShape_14 : decode cX10_clearShape 14 = .ok (.iload_n 1, 1) := by decide +kernel
theorem dX10_clearShape_15 : decode cX10_clearShape 15 = .ok (.invokevirtual 116, 3) := by decide +kernel
theorem dX10_clearShape_18 : decode cX10_clearShape 18 = .ok (.astore_n 2, 1) := by decide +kernel
theorem dX10_clearShape_19 : decode cX10_clearShape 19 = .ok (.aload_n 2, 1) := by decide +kernel
theorem dX10_clearShape_20 : decode cX10_clearShape 20 = .ok (.invokevirtual 120, 3) := by decide +kernel
theorem dX10_clearShape_23 : decode cX10_clearShape 23 = .ok (.ifCond .eq 6, 3) := by decide +kernel
theorem dX10_clearShape_26 : decode cX10_clearShape 26 = .ok (.ldc 124, 2) := by decide +kernel
theorem dX10_clearShape_28 : decode cX10_clearShape 28 = .ok (.ireturn, 1) := by decide +kernel
theorem dX10_clearShape_29 : decode cX10_clearShape 29 = .ok (.aload_n 0, 1) := by decide +kernel
theorem dX10_clearShape_30 : decode cX10_clearShape 30 = .ok (.getfield 62, 3) := by decide +kernel
theorem dX10_clearShape_33 : decode cX10_clearShape 33 = .ok (.aload_n 0, 1) := by decide +kernel
theorem dX10_clearShape_34 : decode cX10_clearShape 34 = .ok (.getfield 52, 3) := by decide +kernel
theorem dX10_clearShape_37 : decode cX10_clearShape 37 = .ok (.invokevirtual 125, 3) := by decide +kernel
theorem dX10_clearShape_40 : decode cX10_clearShape 40 = .ok (.aload_n 0, 1) := by decide +kernel
theorem dX10_clearShape_41 : decode cX10_clearShape 41 = .ok (.getfield 52, 3) := by decide +kernel
theorem dX10_clearShape_44 : decode cX10_clearShape 44 = .ok (.iload_n 1, 1) := by decide +kernel
theorem dX10_clearShape_45 : decode cX10_clearShape 45 = .ok (.aload_n 0, 1) := by decide +kernel
theorem dX10_clearShape_46 : decode cX10_clearShape 46 = .ok (.getfield 52, 3) := by decide +kernel
theorem dX10_clearShape_49 : decode cX10_clearShape 49 = .ok (.getfield 129, 3) := by decide +kernel
theorem dX10_clearShape_52 : decode cX10_clearShape 52 = .ok (.invokevirtual 132, 3) := by decide +kernel
theorem dX10_clearShape_55 : decode cX10_clearShape 55 = .ok (.aload_n 2, 1) := by decide +kernel
theorem dX10_clearShape_56 : decode cX10_clearShape 56 = .ok (.getfield 136, 3) := by decide +kernel
theorem dX10_clearShape_59 : decode cX10_clearShape 59 = .ok (.ireturn, 1) := by decide +kernel
abbrev rmX10_clearShape : Room := { frames := 4, cells := 0, slots := 0, locals := 160 }
abbrev sX10_clearShape (E : EV) : List AV → AH → (Option AV → AH → Prop) → Prop := Spec E yX10_clearShape cX10_clearShape 3 (some .int) rmX10_clearShape
theorem mX10_clearShape : Mt yX10_clearShape cX10_clearShape 3 (some .int) 1 := ⟨k536, k1, by decide +kernel⟩
theorem vX10_clearShape : MtV yX10_clearShape 10 := ⟨k534, k535, by decide, (RX10, TX10, 12), rfl, rfl⟩
def PX10_clearShape_0 (E : EV) (post : Option AV → AH → Prop) (h : AH) (l0 : Option Nat) (l1 : Int32) : Prop :=
  CS (sX10_isSlot E) [aI l1] h (kI fun x1 h2 => (¬ x1 = 0 → rdP h2 l0 10 5 fun x3 => CV (sX8_slot E) x3 8 [aI l1] h2 (kP fun x4 h5 => CV (sX6_isEmpty E) x4 6 [] h5 (kI fun x7 h8 => (x7 = 0 → rdP h8 l0 10 7 fun x9 => rdP h8 l0 10 5 fun x10 => CV (sX1_save E) x9 1 [aP x10] h8 (kV fun h12 => rdP h12 l0 10 5 fun x13 => rdP h12 l0 10 5 fun x14 => rdP h12 x14 8 0 fun x15 => CV (sX8_setSlot E) x13 8 [aI l1, aP x15] h12 (kV fun h17 => rdI h17 x4 6 3 fun x18 => post (some (aI x18)) h17))) ∧ (¬ x7 = 0 → post (some (aI (-1000002 : Int32))) h8)))) ∧ (x1 = 0 → post (some (aI (-1000001 : Int32))) h2))
theorem bX10_clearShape_0 {E : EV} {X : AX} {post : Option AV → AH → Prop} (C : Cb E X cX10_clearShape RX10 3 rmX10_clearShape) (D : Cr E X (some .int) rmX10_clearShape "clearShape" post) {h : AH} {l0 : Option Nat} {l1 : Int32} (w : PX10_clearShape_0 E post h l0 l1) : Go E X 3 0 0 0 [(0, aP l0), (1, aI l1)] [] h := by
  unfold PX10_clearShape_0 at w
  refine r_iload_n C dX10_clearShape_0 rfl 1 rfl ?_
  refine r_csI (rm' := rmX10_isSlot) C mX10_isSlot vX10_isSlot k366 [aI l1] [] rfl rfl (Nat.le_of_ble_eq_true rfl) (by decide) ⟨Nat.zero_le _, Nat.zero_le _⟩ 0 0 rfl rfl dX10_clearShape_1 w (fun x1 h2 w => ?_)
  refine r_if_ne C dX10_clearShape_4 (tgt := 10) rfl (fun hc => ?_) (fun hc => ?_)
  · have w := w.1 hc
    refine r_aload_n C dX10_clearShape_10 rfl 0 rfl ?_
    refine r_getP C fcX10 (f := 5) (by decide) rfl k316 dX10_clearShape_11 (w.mono fun x3 w => ?_)
    refine r_iload_n C dX10_clearShape_14 rfl 1 rfl ?_
    refine r_cvP (rm' := rmX8_slot) C mX8_slot vX8_slot k537 [aI l1] [] rfl rfl (Nat.le_of_ble_eq_true rfl) (by decide) ⟨Nat.zero_le _, Nat.zero_le _⟩ 0 0 rfl rfl dX10_clearShape_15 w (fun x4 h5 w => ?_)
    refine r_astore_n C dX10_clearShape_18 rfl (by decide) rfl ?_
    refine r_aload_n C dX10_clearShape_19 rfl 0 rfl ?_
    refine r_cvI (rm' := rmX6_isEmpty) C mX6_isEmpty vX6_isEmpty k538 [] [] rfl rfl (Nat.le_of_ble_eq_true rfl) (by decide) ⟨Nat.zero_le _, Nat.zero_le _⟩ 0 0 rfl rfl dX10_clearShape_20 w (fun x7 h8 w => ?_)
    refine r_if_eq C dX10_clearShape_23 (tgt := 29) rfl (fun hc => ?_) (fun hc => ?_)
    · have w := w.1 hc
      refine r_aload_n C dX10_clearShape_29 rfl 1 rfl ?_
      refine r_getP C fcX10 (f := 7) (by decide) rfl k318 dX10_clearShape_30 (w.mono fun x9 w => ?_)
      refine r_aload_n C dX10_clearShape_33 rfl 1 rfl ?_
      refine r_getP C fcX10 (f := 5) (by decide) rfl k316 dX10_clearShape_34 (w.mono fun x10 w => ?_)
      refine r_cvV (rm' := rmX1_save) C mX1_save vX1_save k489 [aP x10] [] rfl rfl (Nat.le_of_ble_eq_true rfl) (by decide) ⟨Nat.zero_le _, Nat.zero_le _⟩ 0 0 rfl rfl dX10_clearShape_37 w (fun h12 w => ?_)
      refine r_aload_n C dX10_clearShape_40 rfl 1 rfl ?_
      refine r_getP C fcX10 (f := 5) (by decide) rfl k316 dX10_clearShape_41 (w.mono fun x13 w => ?_)
      refine r_iload_n C dX10_clearShape_44 rfl 2 rfl ?_
      refine r_aload_n C dX10_clearShape_45 rfl 1 rfl ?_
      refine r_getP C fcX10 (f := 5) (by decide) rfl k316 dX10_clearShape_46 (w.mono fun x14 w => ?_)
      refine r_getP C fcX8 (f := 0) (by decide) rfl k254 dX10_clearShape_49 (w.mono fun x15 w => ?_)
      refine r_cvV (rm' := rmX8_setSlot) C mX8_setSlot vX8_setSlot k529 [aI l1, aP x15] [] rfl rfl (Nat.le_of_ble_eq_true rfl) (by decide) ⟨Nat.zero_le _, Nat.zero_le _⟩ 0 0 rfl rfl dX10_clearShape_52 w (fun h17 w => ?_)
      refine r_aload_n C dX10_clearShape_55 rfl 0 rfl ?_
      refine r_getI C fcX6 (f := 3) (by decide) rfl k34 dX10_clearShape_56 (w.mono fun x18 w => ?_)
      exact r_iret C D rfl (Nat.zero_le _) (Nat.zero_le _) dX10_clearShape_59 w
    · have w := w.2 hc
      refine r_ldc (v := -1000002) C dX10_clearShape_26 k539 ?_
      exact r_iret C D rfl (Nat.zero_le _) (Nat.zero_le _) dX10_clearShape_28 w
  · have w := w.2 hc
    refine r_ldc (v := -1000001) C dX10_clearShape_7 k352 ?_
    exact r_iret C D rfl (Nat.zero_le _) (Nat.zero_le _) dX10_clearShape_9 w
theorem eX10_clearShape {E : EV} {post : Option AV → AH → Prop} {h : AH} {l0 : Option Nat} {l1 : Int32} (w : PX10_clearShape_0 E post h l0 l1) : sX10_clearShape E [aP l0, aI l1] h post := Spec.of RX10 rfl rfl (Nat.le_of_ble_eq_true rfl) fun X C D => bX10_clearShape_0 C D w
theorem dX10_clearText_0 : decode cX10_clearText 0 = .ok (.aload_n 0, 1) := by decide +kernel
theorem dX10_clearText_1 : decode cX10_clearText 1 = .ok (.getfield 13, 3) := by decide +kernel
theorem dX10_clearText_4 : decode cX10_clearText 4 = .ok (.getfield 89, 3) := by decide +kernel
theorem dX10_clearText_7 : decode cX10_clearText 7 = .ok (.istore_n 1, 1) := by decide +kernel
theorem dX10_clearText_8 : decode cX10_clearText 8 = .ok (.aload_n 0, 1) := by decide +kernel
theorem dX10_clearText_9 : decode cX10_clearText 9 = .ok (.getfield 13, 3) := by decide +kernel
theorem dX10_clearText_12 : decode cX10_clearText 12 = .ok (.iconst 0, 1) := by decide +kernel
theorem dX10_clearText_13 : decode cX10_clearText 13 = .ok (.putfield 89, 3) := by decide +kernel
theorem dX10_clearText_16 : decode cX10_clearText 16 = .ok (.iload_n 1, 1) := by decide +kernel
theorem dX10_clearText_17 : decode cX10_clearText 17 = .ok (.ireturn, 1) := by decide +kernel
abbrev rmX10_clearText : Room := { frames := 0, cells := 0, slots := 0, locals := 0 }
abbrev sX10_clearText (E : EV) : List AV → AH → (Option AV → AH → Prop) → Prop := Spec E yX10_clearText cX10_clearText 2 (some .int) rmX10_clearText
theorem mX10_clearText : Mt yX10_clearText cX10_clearText 2 (some .int) 0 := ⟨k361, k1, by decide +kernel⟩
theorem vX10_clearText : MtV yX10_clearText 10 := ⟨k359, k360, by decide, (RX10, TX10, 12), rfl, rfl⟩
def PX10_clearText_0 (E : EV) (post : Option AV → AH → Prop) (h : AH) (l0 : Option Nat) : Prop :=
  rdP h l0 10 0 fun x1 => rdI h x1 9 1 fun x2 => rdP h l0 10 0 fun x4 => wr h x4 9 1 (aI (0 : Int32)) fun h5 => post (some (aI x2)) h5
theorem bX10_clearText_0 {E : EV} {X : AX} {post : Option AV → AH → Prop} (C : Cb E X cX10_clearText RX10 2 rmX10_clearText) (D : Cr E X (some .int) rmX10_clearText "clearText" post) {h : AH} {l0 : Option Nat} (w : PX10_clearText_0 E post h l0) : Go E X 2 0 0 0 [(0, aP l0)] [] h := by
  unfold PX10_clearText_0 at w
  refine r_aload_n C dX10_clearText_0 rfl 0 rfl ?_
  refine r_getP C fcX10 (f := 0) (by decide) rfl k311 dX10_clearText_1 (w.mono fun x1 w => ?_)
  refine r_getI C fcX9 (f := 1) (by decide) rfl k76 dX10_clearText_4 (w.mono fun x2 w => ?_)
  refine r_istore_n C dX10_clearText_7 rfl (by decide) rfl ?_
  refine r_aload_n C dX10_clearText_8 rfl 1 rfl ?_
  refine r_getP C fcX10 (f := 0) (by decide) rfl k311 dX10_clearText_9 (w.mono fun x4 w => ?_)
  refine r_iconst (v := 0) C dX10_clearText_12 rfl ?_
  refine r_put C fcX9 (f := 1) (by decide) rfl rfl rfl rfl k76 dX10_clearText_13 (w.mono fun h5 w => ?_)
  refine r_iload_n C dX10_clearText_16 rfl 0 rfl ?_
  exact r_iret C D rfl (Nat.zero_le _) (Nat.zero_le _) dX10_clearText_17 w
theorem eX10_clearText {E : EV} {post : Option AV → AH → Prop} {h : AH} {l0 : Option Nat} (w : PX10_clearText_0 E post h l0) : sX10_clearText E [aP l0] h post := Spec.of RX10 rfl rfl (Nat.le_of_ble_eq_true rfl) fun X C D => bX10_clearText_0 C D w
theorem dX10_measureItemGap_0 : decode cX10_measureItemGap 0 = .ok (.aload_n 0, 1) := by decide +kernel
theorem dX10_measureItemGap_1 : decode cX10_measureItemGap 1 = .ok (.getfield 52, 3) := by decide +kernel
theorem dX10_measureItemGap_4 : decode cX10_measureItemGap 4 = .ok (.iload_n 2, 1) := by decide +kernel
theorem dX10_measureItemGap_5 : decode cX10_measureItemGap 5 = .ok (.invokevirtual 274, 3) := by decide +kernel
theorem dX10_measureItemGap_8 : decode cX10_measureItemGap 8 = .ok (.aload_n 0, 1) := by decide +kernel
theorem dX10_measureItemGap_9 : decode cX10_measureItemGap 9 = .ok (.getfield 52, 3) := by decide +kernel
theorem dX10_measureItemGap_12 : decode cX10_measureItemGap 12 = .ok (.iload_n 1, 1) := by decide +kernel
theorem dX10_measureItemGap_13 : decode cX10_measureItemGap 13 = .ok (.invokevirtual 274, 3) := by decide +kernel
theorem dX10_measureItemGap_16 : decode cX10_measureItemGap 16 = .ok (.isub, 1) := by decide +kernel
theorem dX10_measureItemGap_17 : decode cX10_measureItemGap 17 = .ok (.istore_n 3, 1) := by decide +kernel
theorem dX10_measureItemGap_18 : decode cX10_measureItemGap 18 = .ok (.aload_n 0, 1) := by decide +kernel
theorem dX10_measureItemGap_19 : decode cX10_measureItemGap 19 = .ok (.getfield 52, 3) := by decide +kernel
theorem dX10_measureItemGap_22 : decode cX10_measureItemGap 22 = .ok (.iload_n 2, 1) := by decide +kernel
theorem dX10_measureItemGap_23 : decode cX10_measureItemGap 23 = .ok (.invokevirtual 275, 3) := by decide +kernel
theorem dX10_measureItemGap_26 : decode cX10_measureItemGap 26 = .ok (.aload_n 0, 1) := by decide +kernel
theorem dX10_measureItemGap_27 : decode cX10_measureItemGap 27 = .ok (.getfield 52, 3) := by decide +kernel
theorem dX10_measureItemGap_30 : decode cX10_measureItemGap 30 = .ok (.iload_n 1, 1) := by decide +kernel
theorem dX10_measureItemGap_31 : decode cX10_measureItemGap 31 = .ok (.invokevirtual 275, 3) := by decide +kernel
theorem dX10_measureItemGap_34 : decode cX10_measureItemGap 34 = .ok (.isub, 1) := by decide +kernel
theorem dX10_measureItemGap_35 : decode cX10_measureItemGap 35 = .ok (.istore 4, 2) := by decide +kernel
theorem dX10_measureItemGap_37 : decode cX10_measureItemGap 37 = .ok (.aload_n 0, 1) := by decide +kernel
theorem dX10_measureItemGap_38 : decode cX10_measureItemGap 38 = .ok (.getfield 36, 3) := by decide +kernel
theorem dX10_measureItemGap_41 : decode cX10_measureItemGap 41 = .ok (.aload_n 0, 1) := by decide +kernel
theorem dX10_measureItemGap_42 : decode cX10_measureItemGap 42 = .ok (.getfield 52, 3) := by decide +kernel
theorem dX10_measureItemGap_45 : decode cX10_measureItemGap 45 = .ok (.iload_n 1, 1) := by decide +kernel
theorem dX10_measureItemGap_46 : decode cX10_measureItemGap 46 = .ok (.invokevirtual 261, 3) := by decide +kernel
theorem dX10_measureItemGap_49 : decode cX10_measureItemGap 49 = .ok (.aload_n 0, 1) := by decide +kernel
theorem dX10_measureItemGap_50 : decode cX10_measureItemGap 50 = .ok (.getfield 52, 3) := by decide +kernel
theorem dX10_measureItemGap_53 : decode cX10_measureItemGap 53 = .ok (.iload_n 2, 1) := by decide +kernel
theorem dX10_measureItemGap_54 : decode cX10_measureItemGap 54 = .ok (.invokevirtual 261, 3) := by decide +kernel
theorem dX10_measureItemGap_57 : decode cX10_measureItemGap 57 = .ok (.iload_n 3, 1) := by decide +kernel
theorem dX10_measureItemGap_58 : decode cX10_measureItemGap 58 = .ok (.iload 4, 2) := by decide +kernel
theorem dX10_measureItemGap_60 : decode cX10_measureItemGap 60 = .ok (.invokevirtual 195, 3) := by decide +kernel
theorem dX10_measureItemGap_63 : decode cX10_measureItemGap 63 = .ok (.return_, 1) := by decide +kernel
abbrev rmX10_measureItemGap : Room := { frames := 5, cells := 0, slots := 0, locals := 200 }
abbrev sX10_measureItemGap (E : EV) : List AV → AH → (Option AV → AH → Prop) → Prop := Spec E yX10_measureItemGap cX10_measureItemGap 5 none rmX10_measureItemGap
theorem mX10_measureItemGap : Mt yX10_measureItemGap cX10_measureItemGap 5 none 2 := ⟨k879, k1, by decide +kernel⟩
theorem vX10_measureItemGap : MtV yX10_measureItemGap 10 := ⟨k878, kp23, by decide, (RX10, TX10, 12), rfl, rfl⟩
def PX10_measureItemGap_0 (E : EV) (post : Option AV → AH → Prop) (h : AH) (l0 : Option Nat) (l1 : Int32) (l2 : Int32) : Prop :=
  rdP h l0 10 5 fun x1 => CV (sX8_x E) x1 8 [aI l2] h (kI fun x2 h3 => rdP h3 l0 10 5 fun x4 => CV (sX8_x E) x4 8 [aI l1] h3 (kI fun x5 h6 => ∀ v7, v7 = (x2 - x5) → rdP h6 l0 10 5 fun x8 => CV (sX8_y E) x8 8 [aI l2] h6 (kI fun x9 h10 => rdP h10 l0 10 5 fun x11 => CV (sX8_y E) x11 8 [aI l1] h10 (kI fun x12 h13 => ∀ v14, v14 = (x9 - x12) → rdP h13 l0 10 3 fun x15 => rdP h13 l0 10 5 fun x16 => CV (sX8_shape E) x16 8 [aI l1] h13 (kP fun x17 h18 => rdP h18 l0 10 5 fun x19 => CV (sX8_shape E) x19 8 [aI l2] h18 (kP fun x20 h21 => CV (sX3_measureGap E) x15 3 [aP x17, aP x20, aI v7, aI v14] h21 (kV fun h23 => post none h23)))))))
theorem bX10_measureItemGap_0 {E : EV} {X : AX} {post : Option AV → AH → Prop} (C : Cb E X cX10_measureItemGap RX10 5 rmX10_measureItemGap) (D : Cr E X none rmX10_measureItemGap "measureItemGap" post) {h : AH} {l0 : Option Nat} {l1 : Int32} {l2 : Int32} (w : PX10_measureItemGap_0 E post h l0 l1 l2) : Go E X 5 0 0 0 [(0, aP l0), (1, aI l1), (2, aI l2)] [] h := by
  unfold PX10_measureItemGap_0 at w
  refine r_aload_n C dX10_measureItemGap_0 rfl 0 rfl ?_
  refine r_getP C fcX10 (f := 5) (by decide) rfl k316 dX10_measureItemGap_1 (w.mono fun x1 w => ?_)
  refine r_iload_n C dX10_measureItemGap_4 rfl 2 rfl ?_
  refine r_cvI (rm' := rmX8_x) C mX8_x vX8_x k743 [aI l2] [] rfl rfl (Nat.le_of_ble_eq_true rfl) (by decide) ⟨Nat.zero_le _, Nat.zero_le _⟩ 0 0 rfl rfl dX10_measureItemGap_5 w (fun x2 h3 w => ?_)
  refine r_aload_n C dX10_measureItemGap_8 rfl 0 rfl ?_
  refine r_getP C fcX10 (f := 5) (by decide) rfl k316 dX10_measureItemGap_9 (w.mono fun x4 w => ?_)
  refine r_iload_n C dX10_measureItemGap_12 rfl 1 rfl ?_
  refine r_cvI (rm' := rmX8_x) C mX8_x vX8_x k743 [aI l1] [aI x2] rfl rfl (Nat.le_of_ble_eq_true rfl) (by decide) ⟨Nat.zero_le _, Nat.zero_le _⟩ 0 0 rfl rfl dX10_measureItemGap_13 w (fun x5 h6 w => ?_)
  refine r_isub C dX10_measureItemGap_16 ?_
  refine r_istore_n C dX10_measureItemGap_17 rfl (by decide) rfl ?_
  have w := w _ rfl
  refine r_aload_n C dX10_measureItemGap_18 rfl 1 rfl ?_
  refine r_getP C fcX10 (f := 5) (by decide) rfl k316 dX10_measureItemGap_19 (w.mono fun x8 w => ?_)
  refine r_iload_n C dX10_measureItemGap_22 rfl 3 rfl ?_
  refine r_cvI (rm' := rmX8_y) C mX8_y vX8_y k744 [aI l2] [] rfl rfl (Nat.le_of_ble_eq_true rfl) (by decide) ⟨Nat.zero_le _, Nat.zero_le _⟩ 0 0 rfl rfl dX10_measureItemGap_23 w (fun x9 h10 w => ?_)
  refine r_aload_n C dX10_measureItemGap_26 rfl 1 rfl ?_
  refine r_getP C fcX10 (f := 5) (by decide) rfl k316 dX10_measureItemGap_27 (w.mono fun x11 w => ?_)
  refine r_iload_n C dX10_measureItemGap_30 rfl 2 rfl ?_
  refine r_cvI (rm' := rmX8_y) C mX8_y vX8_y k744 [aI l1] [aI x9] rfl rfl (Nat.le_of_ble_eq_true rfl) (by decide) ⟨Nat.zero_le _, Nat.zero_le _⟩ 0 0 rfl rfl dX10_measureItemGap_31 w (fun x12 h13 w => ?_)
  refine r_isub C dX10_measureItemGap_34 ?_
  refine r_istore C dX10_measureItemGap_35 (by decide) rfl ?_
  have w := w _ rfl
  refine r_aload_n C dX10_measureItemGap_37 rfl 2 rfl ?_
  refine r_getP C fcX10 (f := 3) (by decide) rfl k314 dX10_measureItemGap_38 (w.mono fun x15 w => ?_)
  refine r_aload_n C dX10_measureItemGap_41 rfl 2 rfl ?_
  refine r_getP C fcX10 (f := 5) (by decide) rfl k316 dX10_measureItemGap_42 (w.mono fun x16 w => ?_)
  refine r_iload_n C dX10_measureItemGap_45 rfl 3 rfl ?_
  refine r_cvP (rm' := rmX8_shape) C mX8_shape vX8_shape k725 [aI l1] [aP x15] rfl rfl (Nat.le_of_ble_eq_true rfl) (by decide) ⟨Nat.zero_le _, Nat.zero_le _⟩ 0 0 rfl rfl dX10_measureItemGap_46 w (fun x17 h18 w => ?_)
  refine r_aload_n C dX10_measureItemGap_49 rfl 2 rfl ?_
  refine r_getP C fcX10 (f := 5) (by decide) rfl k316 dX10_measureItemGap_50 (w.mono fun x19 w => ?_)
  refine r_iload_n C dX10_measureItemGap_53 rfl 4 rfl ?_
  refine r_cvP (rm' := rmX8_shape) C mX8_shape vX8_shape k725 [aI l2] [aP x17, aP x15] rfl rfl (Nat.le_of_ble_eq_true rfl) (by decide) ⟨Nat.zero_le _, Nat.zero_le _⟩ 0 0 rfl rfl dX10_measureItemGap_54 w (fun x20 h21 w => ?_)
  refine r_iload_n C dX10_measureItemGap_57 rfl 1 rfl ?_
  refine r_iload C dX10_measureItemGap_58 0 rfl ?_
  refine r_cvV (rm' := rmX3_measureGap) C mX3_measureGap vX3_measureGap k670 [aP x17, aP x20, aI (x2 - x5), aI (x9 - x12)] [] rfl rfl (Nat.le_of_ble_eq_true rfl) (by decide) ⟨Nat.zero_le _, Nat.zero_le _⟩ 0 0 rfl rfl dX10_measureItemGap_60 w (fun h23 w => ?_)
  exact r_vret C D rfl (Nat.zero_le _) (Nat.zero_le _) dX10_measureItemGap_63 w
theorem eX10_measureItemGap {E : EV} {post : Option AV → AH → Prop} {h : AH} {l0 : Option Nat} {l1 : Int32} {l2 : Int32} (w : PX10_measureItemGap_0 E post h l0 l1 l2) : sX10_measureItemGap E [aP l0, aI l1, aI l2] h post := Spec.of RX10 rfl rfl (Nat.le_of_ble_eq_true rfl) fun X C D => bX10_measureItemGap_0 C D w
theorem dX10_closestPair_0 : decode cX10_closestPair 0 = .ok (.ldc 160, 2) := by decide +kernel
theorem dX10_closestPair_2 : decode cX10_closestPair 2 = .ok (.istore_n 1, 1) := by decide +kernel
theorem dX10_closestPair_3 : decode cX10_closestPair 3 = .ok (.aload_n 0, 1) := by decide +kernel
theorem dX10_closestPair_4 : decode cX10_closestPair 4 = .ok (.getfield 80, 3) := by decide +kernel
theorem dX10_closestPair_7 : decode cX10_closestPair 7 = .ok (.invokevirtual 283, 3) := by decide +kernel
theorem dX10_closestPair_10 : decode cX10_closestPair 10 = .ok (.iconst 0, 1) := by decide +kernel
theorem dX10_closestPair_11 : decode cX10_closestPair 11 = .ok (.istore_n 2, 1) := by decide +kernel
theorem dX10_closestPair_12 : decode cX10_closestPair 12 = .ok (.iload_n 2, 1) := by decide +kernel
theorem dX10_closestPair_13 : decode cX10_closestPair 13 = .ok (.aload_n 0, 1) := by decide +kernel
theorem dX10_closestPair_14 : decode cX10_closestPair 14 = .ok (.getfield 52, 3) := by decide +kernel
theorem dX10_closestPair_17 : decode cX10_closestPair 17 = .ok (.getfield 218, 3) := by decide +kernel
theorem dX10_closestPair_20 : decode cX10_closestPair 20 = .ok (.if_icmp .ge 73, 3) := by decide +kernel
theorem dX10_closestPair_23 : decode cX10_closestPair 23 = .ok (.iload_n 2, 1) := by decide +kernel
theorem dX10_closestPair_24 : decode cX10_closestPair 24 = .ok (.iconst 1, 1) := by decide +kernel
theorem dX10_closestPair_25 : decode cX10_closestPair 25 = .ok (.iadd, 1) := by decide +kernel
theorem dX10_closestPair_26 : decode cX10_closestPair 26 = .ok (.istore_n 3, 1) := by decide +kernel
theorem dX10_closestPair_27 : decode cX10_closestPair 27 = .ok (.iload_n 3, 1) := by decide +kernel
theorem dX10_closestPair_28 : decode cX10_closestPair 28 = .ok (.aload_n 0, 1) := by decide +kernel
theorem dX10_closestPair_29 : decode cX10_closestPair 29 = .ok (.getfield 52, 3) := by decide +kernel
theorem dX10_closestPair_32 : decode cX10_closestPair 32 = .ok (.getfield 218, 3) := by decide +kernel
theorem dX10_closestPair_35 : decode cX10_closestPair 35 = .ok (.if_icmp .ge 52, 3) := by decide +kernel
theorem dX10_closestPair_38 : decode cX10_closestPair 38 = .ok (.aload_n 0, 1) := by decide +kernel
theorem dX10_closestPair_39 : decode cX10_closestPair 39 = .ok (.iload_n 2, 1) := by decide +kernel
theorem dX10_closestPair_40 : decode cX10_closestPair 40 = .ok (.iload_n 3, 1) := by decide +kernel
theorem dX10_closestPair_41 : decode cX10_closestPair 41 = .ok (.invokevirtual 279, 3) := by decide +kernel
theorem dX10_closestPair_44 : decode cX10_closestPair 44 = .ok (.aload_n 0, 1) := by decide +kernel
theorem dX10_closestPair_45 : decode cX10_closestPair 45 = .ok (.getfield 80, 3) := by decide +kernel
theorem dX10_closestPair_48 : decode cX10_closestPair 48 = .ok (.aload_n 0, 1) := by decide +kernel
theorem dX10_closestPair_49 : decode cX10_closestPair 49 = .ok (.getfield 36, 3) := by decide +kernel
theorem dX10_closestPair_52 : decode cX10_closestPair 52 = .ok (.getfield 199, 3) := by decide +kernel
theorem dX10_closestPair_55 : decode cX10_closestPair 55 = .ok (.getfield 286, 3) := by decide +kernel
theorem dX10_closestPair_58 : decode cX10_closestPair 58 = .ok (.aload_n 0, 1) := by decide +kernel
theorem dX10_closestPair_59 : decode cX10_closestPair 59 = .ok (.getfield 36, 3) := by decide +kernel
theorem dX10_closestPair_62 : decode cX10_closestPair 62 = .ok (.getfield 199, 3) := by decide +kernel
theorem dX10_closestPair_65 : decode cX10_closestPair 65 = .ok (.getfield 290, 3) := by decide +kernel
theorem dX10_closestPair_68 : decode cX10_closestPair 68 = .ok (.invokevirtual 293, 3) := by decide +kernel
theorem dX10_closestPair_71 : decode cX10_closestPair 71 = .ok (.ifCond .eq 10, 3) := by decide +kernel
theorem dX10_closestPair_74 : decode cX10_closestPair 74 = .ok (.bipush 10, 2) := by decide +kernel
theorem dX10_closestPair_76 : decode cX10_closestPair 76 = .ok (.iload_n 2, 1) := by decide +kernel
theorem dX10_closestPair_77 : decode cX10_closestPair 77 = .ok (.imul, 1) := by decide +kernel
theorem dX10_closestPair_78 : decode cX10_closestPair 78 = .ok (.iload_n 3, 1) := by decide +kernel
theorem dX10_closestPair_79 : decode cX10_closestPair 79 = .ok (.iadd, 1) := by decide +kernel
theorem dX10_closestPair_80 : decode cX10_closestPair 80 = .ok (.istore_n 1, 1) := by decide +kernel
theorem dX10_closestPair_81 : decode cX10_closestPair 81 = .ok (.iinc 3 1, 3) := by decide +kernel
theorem dX10_closestPair_84 : decode cX10_closestPair 84 = .ok (.goto (-57), 3) := by decide +kernel
theorem dX10_closestPair_87 : decode cX10_closestPair 87 = .ok (.iinc 2 1, 3) := by decide +kernel
theorem dX10_closestPair_90 : decode cX10_closestPair 90 = .ok (.goto (-78), 3) := by decide +kernel
theorem dX10_closestPair_93 : decode cX10_closestPair 93 = .ok (.iload_n 1, 1) := by decide +kernel
theorem dX10_closestPair_94 : decode cX10_closestPair 94 = .ok (.ireturn, 1) := by decide +kernel
abbrev rmX10_closestPair : Room := { frames := 6, cells := 0, slots := 0, locals := 240 }
abbrev sX10_closestPair (E : EV) : List AV → AH → (Option AV → AH → Prop) → Prop := Spec E yX10_closestPair cX10_closestPair 4 (some .int) rmX10_closestPair
theorem mX10_closestPair : Mt yX10_closestPair cX10_closestPair 4 (some .int) 0 := ⟨k883, k1, by decide +kernel⟩
theorem vX10_closestPair : MtV yX10_closestPair 10 := ⟨k881, k882, by decide, (RX10, TX10, 12), rfl, rfl⟩
def PX10_closestPair_27 (E : EV) (post : Option AV → AH → Prop) (J12 : AH → Option Nat → Int32 → Int32 → Prop) (J27 : AH → Option Nat → Int32 → Int32 → Int32 → Prop) (h : AH) (l0 : Option Nat) (l1 : Int32) (l2 : Int32) (l3 : Int32) : Prop :=
  rdP h l0 10 5 fun x1 => rdI h x1 8 5 fun x2 => (x2 ≤ l3 → J12 h l0 l1 (l2 + (1 : Int32))) ∧ (¬ x2 ≤ l3 → CV (sX10_measureItemGap E) l0 10 [aI l2, aI l3] h (kV fun h4 => rdP h4 l0 10 10 fun x5 => rdP h4 l0 10 3 fun x6 => rdP h4 x6 3 3 fun x7 => rdJ h4 x7 0 0 fun x8 => rdP h4 l0 10 3 fun x9 => rdP h4 x9 3 3 fun x10 => rdJ h4 x10 0 1 fun x11 => CV (sX0_lowerTo E) x5 0 [aJ x8, aJ x11] h4 (kI fun x12 h13 => (x12 = 0 → J27 h13 l0 l1 l2 (l3 + (1 : Int32))) ∧ (¬ x12 = 0 → ∀ v14, v14 = (((10 : Int32) * l2) + l3) → J27 h13 l0 v14 l2 (l3 + (1 : Int32))))))
theorem bX10_closestPair_27 {E : EV} {X : AX} {post : Option AV → AH → Prop} (C : Cb E X cX10_closestPair RX10 4 rmX10_closestPair) (D : Cr E X (some .int) rmX10_closestPair "closestPair" post) {J12 : AH → Option Nat → Int32 → Int32 → Prop} (g12 : ∀ (h : AH) (l0 : Option Nat) (l1 : Int32) (l2 : Int32), J12 h l0 l1 l2 → Go E X 4 0 0 12 [(0, aP l0), (1, aI l1), (2, aI l2)] [] h) {J27 : AH → Option Nat → Int32 → Int32 → Int32 → Prop} (g27 : ∀ (h : AH) (l0 : Option Nat) (l1 : Int32) (l2 : Int32) (l3 : Int32), J27 h l0 l1 l2 l3 → Go E X 4 0 0 27 [(0, aP l0), (1, aI l1), (2, aI l2), (3, aI l3)] [] h) {h : AH} {l0 : Option Nat} {l1 : Int32} {l2 : Int32} {l3 : Int32} (w : PX10_closestPair_27 E post J12 J27 h l0 l1 l2 l3) : Go E X 4 0 0 27 [(0, aP l0), (1, aI l1), (2, aI l2), (3, aI l3)] [] h := by
  unfold PX10_closestPair_27 at w
  refine r_iload_n C dX10_closestPair_27 rfl 3 rfl ?_
  refine r_aload_n C dX10_closestPair_28 rfl 0 rfl ?_
  refine r_getP C fcX10 (f := 5) (by decide) rfl k316 dX10_closestPair_29 (w.mono fun x1 w => ?_)
  refine r_getI C fcX8 (f := 5) (by decide) rfl k261 dX10_closestPair_32 (w.mono fun x2 w => ?_)
  refine r_icmp_ge C dX10_closestPair_35 (tgt := 87) rfl (fun hc => ?_) (fun hc => ?_)
  · have w := w.1 hc
    refine r_iinc C dX10_closestPair_87 2 rfl (v := 1) rfl (by decide) rfl ?_
    refine r_goto C dX10_closestPair_90 (tgt := 12) rfl ?_
    exact r_sub [1, 2, 0] rfl (g12 h l0 l1 (l2 + (1 : Int32)) w)
  · have w := w.2 hc
    refine r_aload_n C dX10_closestPair_38 rfl 0 rfl ?_
    refine r_iload_n C dX10_closestPair_39 rfl 2 rfl ?_
    refine r_iload_n C dX10_closestPair_40 rfl 3 rfl ?_
    refine r_cvV (rm' := rmX10_measureItemGap) C mX10_measureItemGap vX10_measureItemGap k876 [aI l2, aI l3] [] rfl rfl (Nat.le_of_ble_eq_true rfl) (by decide) ⟨Nat.zero_le _, Nat.zero_le _⟩ 0 0 rfl rfl dX10_closestPair_41 w (fun h4 w => ?_)
    refine r_aload_n C dX10_closestPair_44 rfl 0 rfl ?_
    refine r_getP C fcX10 (f := 10) (by decide) rfl k321 dX10_closestPair_45 (w.mono fun x5 w => ?_)
    refine r_aload_n C dX10_closestPair_48 rfl 0 rfl ?_
    refine r_getP C fcX10 (f := 3) (by decide) rfl k314 dX10_closestPair_49 (w.mono fun x6 w => ?_)
    refine r_getP C fcX3 (f := 3) (by decide) rfl k191 dX10_closestPair_52 (w.mono fun x7 w => ?_)
    refine r_getJ C fcX0 (f := 0) (by decide) rfl k177 dX10_closestPair_55 (w.mono fun x8 w => ?_)
    refine r_aload_n C dX10_closestPair_58 rfl 0 rfl ?_
    refine r_getP C fcX10 (f := 3) (by decide) rfl k314 dX10_closestPair_59 (w.mono fun x9 w => ?_)
    refine r_getP C fcX3 (f := 3) (by decide) rfl k191 dX10_closestPair_62 (w.mono fun x10 w => ?_)
    refine r_getJ C fcX0 (f := 1) (by decide) rfl k179 dX10_closestPair_65 (w.mono fun x11 w => ?_)
    refine r_cvI (rm' := rmX0_lowerTo) C mX0_lowerTo vX0_lowerTo k885 [aJ x8, aJ x11] [] rfl rfl (Nat.le_of_ble_eq_true rfl) (by decide) ⟨Nat.zero_le _, Nat.zero_le _⟩ 0 0 rfl rfl dX10_closestPair_68 w (fun x12 h13 w => ?_)
    refine r_if_eq C dX10_closestPair_71 (tgt := 81) rfl (fun hc => ?_) (fun hc => ?_)
    · have w := w.1 hc
      refine r_iinc C dX10_closestPair_81 3 rfl (v := 1) rfl (by decide) rfl ?_
      refine r_goto C dX10_closestPair_84 (tgt := 27) rfl ?_
      exact r_sub [1, 2, 3, 0] rfl (g27 h13 l0 l1 l2 (l3 + (1 : Int32)) w)
    · have w := w.2 hc
      refine r_bipush (v := 10) C dX10_closestPair_74 rfl ?_
      refine r_iload_n C dX10_closestPair_76 rfl 2 rfl ?_
      refine r_imul C dX10_closestPair_77 ?_
      refine r_iload_n C dX10_closestPair_78 rfl 3 rfl ?_
      refine r_iadd C dX10_closestPair_79 ?_
      refine r_istore_n C dX10_closestPair_80 rfl (by decide) rfl ?_
      have w := w _ rfl
      skip
      refine r_iinc C dX10_closestPair_81 3 rfl (v := 1) rfl (by decide) rfl ?_
      refine r_goto C dX10_closestPair_84 (tgt := 27) rfl ?_
      exact r_sub [2, 1, 3, 0] rfl (g27 h13 l0 (((10 : Int32) * l2) + l3) l2 (l3 + (1 : Int32)) w)
theorem lpX10_closestPair_27 {E : EV} {X : AX} {post : Option AV → AH → Prop} (C : Cb E X cX10_closestPair RX10 4 rmX10_closestPair) (D : Cr E X (some .int) rmX10_closestPair "closestPair" post) {J12 : AH → Option Nat → Int32 → Int32 → Prop} (g12 : ∀ (h : AH) (l0 : Option Nat) (l1 : Int32) (l2 : Int32), J12 h l0 l1 l2 → Go E X 4 0 0 12 [(0, aP l0), (1, aI l1), (2, aI l2)] [] h) (I : Nat → AH → Option Nat → Int32 → Int32 → Int32 → Prop) (step : ∀ (z : Nat) (h : AH) (l0 : Option Nat) (l1 : Int32) (l2 : Int32) (l3 : Int32), I z h l0 l1 l2 l3 → PX10_closestPair_27 E post J12 (fun h l0 l1 l2 l3 => ∃ z', z' < z ∧ I z' h l0 l1 l2 l3) h l0 l1 l2 l3) : ∀ (z : Nat) (h : AH) (l0 : Option Nat) (l1 : Int32) (l2 : Int32) (l3 : Int32), I z h l0 l1 l2 l3 → Go E X 4 0 0 27 [(0, aP l0), (1, aI l1), (2, aI l2), (3, aI l3)] [] h := by
  intro z
  induction z using Nat.strongRecOn with
  | _ z ih =>
    intro h l0 l1 l2 l3 hI
    exact bX10_closestPair_27 C D g12 (fun h l0 l1 l2 l3 hJ => by obtain ⟨z', hz, hi⟩ := hJ; exact ih z' hz h l0 l1 l2 l3 hi) (step z h l0 l1 l2 l3 hI)
def PX10_closestPair_12 (E : EV) (post : Option AV → AH → Prop) (J27 : AH → Option Nat → Int32 → Int32 → Int32 → Prop) (h : AH) (l0 : Option Nat) (l1 : Int32) (l2 : Int32) : Prop :=
  rdP h l0 10 5 fun x1 => rdI h x1 8 5 fun x2 => (x2 ≤ l2 → post (some (aI l1)) h) ∧ (¬ x2 ≤ l2 → ∀ v3, v3 = (l2 + (1 : Int32)) → J27 h l0 l1 l2 v3)
theorem bX10_closestPair_12 {E : EV} {X : AX} {post : Option AV → AH → Prop} (C : Cb E X cX10_closestPair RX10 4 rmX10_closestPair) (D : Cr E X (some .int) rmX10_closestPair "closestPair" post) {J27 : AH → Option Nat → Int32 → Int32 → Int32 → Prop} (g27 : ∀ (h : AH) (l0 : Option Nat) (l1 : Int32) (l2 : Int32) (l3 : Int32), J27 h l0 l1 l2 l3 → Go E X 4 0 0 27 [(0, aP l0), (1, aI l1), (2, aI l2), (3, aI l3)] [] h) {h : AH} {l0 : Option Nat} {l1 : Int32} {l2 : Int32} (w : PX10_closestPair_12 E post J27 h l0 l1 l2) : Go E X 4 0 0 12 [(0, aP l0), (1, aI l1), (2, aI l2)] [] h := by
  unfold PX10_closestPair_12 at w
  refine r_iload_n C dX10_closestPair_12 rfl 2 rfl ?_
  refine r_aload_n C dX10_closestPair_13 rfl 0 rfl ?_
  refine r_getP C fcX10 (f := 5) (by decide) rfl k316 dX10_closestPair_14 (w.mono fun x1 w => ?_)
  refine r_getI C fcX8 (f := 5) (by decide) rfl k261 dX10_closestPair_17 (w.mono fun x2 w => ?_)
  refine r_icmp_ge C dX10_closestPair_20 (tgt := 93) rfl (fun hc => ?_) (fun hc => ?_)
  · have w := w.1 hc
    refine r_iload_n C dX10_closestPair_93 rfl 1 rfl ?_
    exact r_iret C D rfl (Nat.zero_le _) (Nat.zero_le _) dX10_closestPair_94 w
  · have w := w.2 hc
    refine r_iload_n C dX10_closestPair_23 rfl 2 rfl ?_
    refine r_iconst (v := 1) C dX10_closestPair_24 rfl ?_
    refine r_iadd C dX10_closestPair_25 ?_
    refine r_istore_n C dX10_closestPair_26 rfl (by decide) rfl ?_
    have w := w _ rfl
    skip
    exact r_sub [1, 2, 3, 0] rfl (g27 h l0 l1 l2 (l2 + (1 : Int32)) w)
def PX10_closestPair_0 (E : EV) (post : Option AV → AH → Prop) (J12 : AH → Option Nat → Int32 → Int32 → Prop) (h : AH) (l0 : Option Nat) : Prop :=
  rdP h l0 10 10 fun x2 => CV (sX0_setInfinite E) x2 0 [] h (kV fun h4 => J12 h4 l0 (-1000009 : Int32) (0 : Int32))
theorem bX10_closestPair_0 {E : EV} {X : AX} {post : Option AV → AH → Prop} (C : Cb E X cX10_closestPair RX10 4 rmX10_closestPair) (D : Cr E X (some .int) rmX10_closestPair "closestPair" post) {J12 : AH → Option Nat → Int32 → Int32 → Prop} (g12 : ∀ (h : AH) (l0 : Option Nat) (l1 : Int32) (l2 : Int32), J12 h l0 l1 l2 → Go E X 4 0 0 12 [(0, aP l0), (1, aI l1), (2, aI l2)] [] h) {h : AH} {l0 : Option Nat} (w : PX10_closestPair_0 E post J12 h l0) : Go E X 4 0 0 0 [(0, aP l0)] [] h := by
  unfold PX10_closestPair_0 at w
  refine r_ldc (v := -1000009) C dX10_closestPair_0 k593 ?_
  refine r_istore_n C dX10_closestPair_2 rfl (by decide) rfl ?_
  refine r_aload_n C dX10_closestPair_3 rfl 1 rfl ?_
  refine r_getP C fcX10 (f := 10) (by decide) rfl k321 dX10_closestPair_4 (w.mono fun x2 w => ?_)
  refine r_cvV (rm' := rmX0_setInfinite) C mX0_setInfinite vX0_setInfinite k884 [] [] rfl rfl (Nat.le_of_ble_eq_true rfl) (by decide) ⟨Nat.zero_le _, Nat.zero_le _⟩ 0 0 rfl rfl dX10_closestPair_7 w (fun h4 w => ?_)
  refine r_iconst (v := 0) C dX10_closestPair_10 rfl ?_
  refine r_istore_n C dX10_closestPair_11 rfl (by decide) rfl ?_
  exact r_sub [2, 1, 0] rfl (g12 h4 l0 (-1000009 : Int32) (0 : Int32) w)
theorem eX10_closestPair {E : EV} {post : Option AV → AH → Prop} {h : AH} {l0 : Option Nat} {J12 : AH → Option Nat → Int32 → Int32 → Prop} (g12 : ∀ X : AX, Cb E X cX10_closestPair RX10 4 rmX10_closestPair → Cr E X (some .int) rmX10_closestPair "closestPair" post → ∀ (h : AH) (l0 : Option Nat) (l1 : Int32) (l2 : Int32), J12 h l0 l1 l2 → Go E X 4 0 0 12 [(0, aP l0), (1, aI l1), (2, aI l2)] [] h) (w : PX10_closestPair_0 E post J12 h l0) : sX10_closestPair E [aP l0] h post := Spec.of RX10 rfl rfl (Nat.le_of_ble_eq_true rfl) fun X C D => bX10_closestPair_0 C D (g12 X C D) w
theorem dX10_moveItem_0 : decode cX10_moveItem 0 = .ok (.iload_n 2, 1) := by decide +kernel
theorem dX10_moveItem_1 : decode cX10_moveItem 1 = .ok (.invokestatic 171, 3) := by decide +kernel
theorem dX10_moveItem_4 : decode cX10_moveItem 4 = .ok (.istore_n 3, 1) := by decide +kernel
theorem dX10_moveItem_5 : decode cX10_moveItem 5 = .ok (.iload_n 2, 1) := by decide +kernel
theorem dX10_moveItem_6 : decode cX10_moveItem 6 = .ok (.invokestatic 174, 3) := by decide +kernel
theorem dX10_moveItem_9 : decode cX10_moveItem 9 = .ok (.istore 4, 2) := by decide +kernel
theorem dX10_moveItem_11 : decode cX10_moveItem 11 = .ok (.iconst 0, 1) := by decide +kernel
theorem dX10_moveItem_12 : decode cX10_moveItem 12 = .ok (.istore 5, 2) := by decide +kernel
theorem dX10_moveItem_14 : decode cX10_moveItem 14 = .ok (.aload_n 0, 1) := by decide +kernel
theorem dX10_moveItem_15 : decode cX10_moveItem 15 = .ok (.getfield 52, 3) := by decide +kernel
theorem dX10_moveItem_18 : decode cX10_moveItem 18 = .ok (.iload_n 1, 1) := by decide +kernel
theorem dX10_moveItem_19 : decode cX10_moveItem 19 = .ok (.invokevirtual 274, 3) := by decide +kernel
theorem dX10_moveItem_22 : decode cX10_moveItem 22 = .ok (.istore 6, 2) := by decide +kernel
theorem dX10_moveItem_24 : decode cX10_moveItem 24 = .ok (.aload_n 0, 1) := by decide +kernel
theorem dX10_moveItem_25 : decode cX10_moveItem 25 = .ok (.getfield 52, 3) := by decide +kernel
theorem dX10_moveItem_28 : decode cX10_moveItem 28 = .ok (.iload_n 1, 1) := by decide +kernel
theorem dX10_moveItem_29 : decode cX10_moveItem 29 = .ok (.invokevirtual 275, 3) := by decide +kernel
theorem dX10_moveItem_32 : decode cX10_moveItem 32 = .ok (.istore 7, 2) := by decide +kernel
theorem dX10_moveItem_34 : decode cX10_moveItem 34 = .ok (.iload 5, 2) := by decide +kernel
theorem dX10_moveItem_36 : decode cX10_moveItem 36 = .ok (.ldc_w 270, 3) := by decide +kernel
theorem dX10_moveItem_39 : decode cX10_moveItem 39 = .ok (.if_icmp .ge 41, 3) := by decide +kernel
theorem dX10_moveItem_42 : decode cX10_moveItem 42 = .ok (.aload_n 0, 1) := by decide +kernel
theorem dX10_moveItem_43 : decode cX10_moveItem 43 = .ok (.getfield 43, 3) := by decide +kernel
theorem dX10_moveItem_46 : decode cX10_moveItem 46 = .ok (.iload 6, 2) := by decide +kernel
theorem dX10_moveItem_48 : decode cX10_moveItem 48 = .ok (.iload_n 3, 1) := by decide +kernel
theorem dX10_moveItem_49 : decode cX10_moveItem 49 = .ok (.iadd, 1) := by decide +kernel
theorem dX10_moveItem_50 : decode cX10_moveItem 50 = .ok (.iload 7, 2) := by decide +kernel
theorem dX10_moveItem_52 : decode cX10_moveItem 52 = .ok (.iload 4, 2) := by decide +kernel
theorem dX10_moveItem_54 : decode cX10_moveItem 54 = .ok (.iadd, 1) := by decide +kernel
theorem dX10_moveItem_55 : decode cX10_moveItem 55 = .ok (.invokevirtual 335, 3) := by decide +kernel
theorem dX10_moveItem_58 : decode cX10_moveItem 58 = .ok (.ifCond .eq 22, 3) := by decide +kernel
theorem dX10_moveItem_61 : decode cX10_moveItem 61 = .ok (.iload 6, 2) := by decide +kernel
theorem dX10_moveItem_63 : decode cX10_moveItem 63 = .ok (.iload_n 3, 1) := by decide +kernel
theorem dX10_moveItem_64 : decode cX10_moveItem 64 = .ok (.iadd, 1) := by decide +kernel
theorem dX10_moveItem_65 : decode cX10_moveItem 65 = .ok (.istore 6, 2) := by decide +kernel
theorem dX10_moveItem_67 : decode cX10_moveItem 67 = .ok (.iload 7, 2) := by decide +kernel
theorem dX10_moveItem_69 : decode cX10_moveItem 69 = .ok (.iload 4, 2) := by decide +kernel
theorem dX10_moveItem_71 : decode cX10_moveItem 71 = .ok (.iadd, 1) := by decide +kernel
theorem dX10_moveItem_72 : decode cX10_moveItem 72 = .ok (.istore 7, 2) := by decide +kernel
theorem dX10_moveItem_74 : decode cX10_moveItem 74 = .ok (.iinc 5 1, 3) := by decide +kernel
theorem dX10_moveItem_77 : decode cX10_moveItem 77 = .ok (.goto (-43), 3) := by decide +kernel
theorem dX10_moveItem_80 : decode cX10_moveItem 80 = .ok (.aload_n 0, 1) := by decide +kernel
theorem dX10_moveItem_81 : decode cX10_moveItem 81 = .ok (.getfield 52, 3) := by decide +kernel
theorem dX10_moveItem_84 : decode cX10_moveItem 84 = .ok (.iload_n 1, 1) := by decide +kernel
theorem dX10_moveItem_85 : decode cX10_moveItem 85 = .ok (.iload 6, 2) := by decide +kernel
theorem dX10_moveItem_87 : decode cX10_moveItem 87 = .ok (.iload 7, 2) := by decide +kernel
theorem dX10_moveItem_89 : decode cX10_moveItem 89 = .ok (.invokevirtual 353, 3) := by decide +kernel
theorem dX10_moveItem_92 : decode cX10_moveItem 92 = .ok (.iload 5, 2) := by decide +kernel
theorem dX10_moveItem_94 : decode cX10_moveItem 94 = .ok (.ireturn, 1) := by decide +kernel
abbrev rmX10_moveItem : Room := { frames := 4, cells := 0, slots := 0, locals := 160 }
abbrev sX10_moveItem (E : EV) : List AV → AH → (Option AV → AH → Prop) → Prop := Spec E yX10_moveItem cX10_moveItem 8 (some .int) rmX10_moveItem
theorem mX10_moveItem : Mt yX10_moveItem cX10_moveItem 8 (some .int) 2 := ⟨k841, k1, by decide +kernel⟩
theorem vX10_moveItem : MtV yX10_moveItem 10 := ⟨k840, kp22, by decide, (RX10, TX10, 12), rfl, rfl⟩
def PX10_moveItem_80 (E : EV) (post : Option AV → AH → Prop) (h : AH) (l0 : Option Nat) (l1 : Int32) (l5 : Int32) (l6 : Int32) (l7 : Int32) : Prop :=
  rdP h l0 10 5 fun x1 => CV (sX8_setPlace E) x1 8 [aI l1, aI l6, aI l7] h (kV fun h3 => post (some (aI l5)) h3)
theorem bX10_moveItem_80 {E : EV} {X : AX} {post : Option AV → AH → Prop} (C : Cb E X cX10_moveItem RX10 8 rmX10_moveItem) (D : Cr E X (some .int) rmX10_moveItem "moveItem" post) {h : AH} {l0 : Option Nat} {l1 : Int32} {l5 : Int32} {l6 : Int32} {l7 : Int32} (w : PX10_moveItem_80 E post h l0 l1 l5 l6 l7) : Go E X 8 0 0 80 [(0, aP l0), (1, aI l1), (5, aI l5), (6, aI l6), (7, aI l7)] [] h := by
  unfold PX10_moveItem_80 at w
  refine r_aload_n C dX10_moveItem_80 rfl 0 rfl ?_
  refine r_getP C fcX10 (f := 5) (by decide) rfl k316 dX10_moveItem_81 (w.mono fun x1 w => ?_)
  refine r_iload_n C dX10_moveItem_84 rfl 1 rfl ?_
  refine r_iload C dX10_moveItem_85 3 rfl ?_
  refine r_iload C dX10_moveItem_87 4 rfl ?_
  refine r_cvV (rm' := rmX8_setPlace) C mX8_setPlace vX8_setPlace k843 [aI l1, aI l6, aI l7] [] rfl rfl (Nat.le_of_ble_eq_true rfl) (by decide) ⟨Nat.zero_le _, Nat.zero_le _⟩ 0 0 rfl rfl dX10_moveItem_89 w (fun h3 w => ?_)
  refine r_iload C dX10_moveItem_92 2 rfl ?_
  exact r_iret C D rfl (Nat.zero_le _) (Nat.zero_le _) dX10_moveItem_94 w
def PX10_moveItem_34 (E : EV) (post : Option AV → AH → Prop) (J34 : AH → Option Nat → Int32 → Int32 → Int32 → Int32 → Int32 → Int32 → Prop) (h : AH) (l0 : Option Nat) (l1 : Int32) (l3 : Int32) (l4 : Int32) (l5 : Int32) (l6 : Int32) (l7 : Int32) : Prop :=
  ((1000000 : Int32) ≤ l5 → PX10_moveItem_80 E post h l0 l1 l5 l6 l7) ∧ (¬ (1000000 : Int32) ≤ l5 → rdP h l0 10 4 fun x1 => CV (sX4_isFree E) x1 4 [aI (l6 + l3), aI (l7 + l4)] h (kI fun x2 h3 => (x2 = 0 → PX10_moveItem_80 E post h3 l0 l1 l5 l6 l7) ∧ (¬ x2 = 0 → ∀ v4, v4 = (l6 + l3) → ∀ v5, v5 = (l7 + l4) → J34 h3 l0 l1 l3 l4 (l5 + (1 : Int32)) v4 v5)))
theorem bX10_moveItem_34 {E : EV} {X : AX} {post : Option AV → AH → Prop} (C : Cb E X cX10_moveItem RX10 8 rmX10_moveItem) (D : Cr E X (some .int) rmX10_moveItem "moveItem" post) {J34 : AH → Option Nat → Int32 → Int32 → Int32 → Int32 → Int32 → Int32 → Prop} (g34 : ∀ (h : AH) (l0 : Option Nat) (l1 : Int32) (l3 : Int32) (l4 : Int32) (l5 : Int32) (l6 : Int32) (l7 : Int32), J34 h l0 l1 l3 l4 l5 l6 l7 → Go E X 8 0 0 34 [(0, aP l0), (1, aI l1), (3, aI l3), (4, aI l4), (5, aI l5), (6, aI l6), (7, aI l7)] [] h) {h : AH} {l0 : Option Nat} {l1 : Int32} {l3 : Int32} {l4 : Int32} {l5 : Int32} {l6 : Int32} {l7 : Int32} (w : PX10_moveItem_34 E post J34 h l0 l1 l3 l4 l5 l6 l7) : Go E X 8 0 0 34 [(0, aP l0), (1, aI l1), (3, aI l3), (4, aI l4), (5, aI l5), (6, aI l6), (7, aI l7)] [] h := by
  unfold PX10_moveItem_34 at w
  refine r_iload C dX10_moveItem_34 4 rfl ?_
  refine r_ldc_w (v := 1000000) C dX10_moveItem_36 k842 ?_
  refine r_icmp_ge C dX10_moveItem_39 (tgt := 80) rfl (fun hc => ?_) (fun hc => ?_)
  · have w := w.1 hc
    exact r_sub [0, 1, 4, 5, 6] rfl (bX10_moveItem_80 C D w)
  · have w := w.2 hc
    refine r_aload_n C dX10_moveItem_42 rfl 0 rfl ?_
    refine r_getP C fcX10 (f := 4) (by decide) rfl k315 dX10_moveItem_43 (w.mono fun x1 w => ?_)
    refine r_iload C dX10_moveItem_46 5 rfl ?_
    refine r_iload_n C dX10_moveItem_48 rfl 2 rfl ?_
    refine r_iadd C dX10_moveItem_49 ?_
    refine r_iload C dX10_moveItem_50 6 rfl ?_
    refine r_iload C dX10_moveItem_52 3 rfl ?_
    refine r_iadd C dX10_moveItem_54 ?_
    refine r_cvI (rm' := rmX4_isFree) C mX4_isFree vX4_isFree k745 [aI (l6 + l3), aI (l7 + l4)] [] rfl rfl (Nat.le_of_ble_eq_true rfl) (by decide) ⟨Nat.zero_le _, Nat.zero_le _⟩ 0 0 rfl rfl dX10_moveItem_55 w (fun x2 h3 w => ?_)
    refine r_if_eq C dX10_moveItem_58 (tgt := 80) rfl (fun hc => ?_) (fun hc => ?_)
    · have w := w.1 hc
      exact r_sub [0, 1, 4, 5, 6] rfl (bX10_moveItem_80 C D w)
    · have w := w.2 hc
      refine r_iload C dX10_moveItem_61 5 rfl ?_
      refine r_iload_n C dX10_moveItem_63 rfl 2 rfl ?_
      refine r_iadd C dX10_moveItem_64 ?_
      refine r_istore C dX10_moveItem_65 (by decide) rfl ?_
      have w := w _ rfl
      skip
      refine r_iload C dX10_moveItem_67 6 rfl ?_
      refine r_iload C dX10_moveItem_69 4 rfl ?_
      refine r_iadd C dX10_moveItem_71 ?_
      refine r_istore C dX10_moveItem_72 (by decide) rfl ?_
      have w := w _ rfl
      skip
      refine r_iinc C dX10_moveItem_74 6 rfl (v := 1) rfl (by decide) rfl ?_
      refine r_goto C dX10_moveItem_77 (tgt := 34) rfl ?_
      exact r_sub [3, 4, 5, 6, 0, 2, 1] rfl (g34 h3 l0 l1 l3 l4 (l5 + (1 : Int32)) (l6 + l3) (l7 + l4) w)
theorem lpX10_moveItem_34 {E : EV} {X : AX} {post : Option AV → AH → Prop} (C : Cb E X cX10_moveItem RX10 8 rmX10_moveItem) (D : Cr E X (some .int) rmX10_moveItem "moveItem" post) (I : Nat → AH → Option Nat → Int32 → Int32 → Int32 → Int32 → Int32 → Int32 → Prop) (step : ∀ (z : Nat) (h : AH) (l0 : Option Nat) (l1 : Int32) (l3 : Int32) (l4 : Int32) (l5 : Int32) (l6 : Int32) (l7 : Int32), I z h l0 l1 l3 l4 l5 l6 l7 → PX10_moveItem_34 E post (fun h l0 l1 l3 l4 l5 l6 l7 => ∃ z', z' < z ∧ I z' h l0 l1 l3 l4 l5 l6 l7) h l0 l1 l3 l4 l5 l6 l7) : ∀ (z : Nat) (h : AH) (l0 : Option Nat) (l1 : Int32) (l3 : Int32) (l4 : Int32) (l5 : Int32) (l6 : Int32) (l7 : Int32), I z h l0 l1 l3 l4 l5 l6 l7 → Go E X 8 0 0 34 [(0, aP l0), (1, aI l1), (3, aI l3), (4, aI l4), (5, aI l5), (6, aI l6), (7, aI l7)] [] h := by
  intro z
  induction z using Nat.strongRecOn with
  | _ z ih =>
    intro h l0 l1 l3 l4 l5 l6 l7 hI
    exact bX10_moveItem_34 C D (fun h l0 l1 l3 l4 l5 l6 l7 hJ => by obtain ⟨z', hz, hi⟩ := hJ; exact ih z' hz h l0 l1 l3 l4 l5 l6 l7 hi) (step z h l0 l1 l3 l4 l5 l6 l7 hI)
def PX10_moveItem_0 (E : EV) (post : Option AV → AH → Prop) (J34 : AH → Option Nat → Int32 → Int32 → Int32 → Int32 → Int32 → Int32 → Prop) (h : AH) (l0 : Option Nat) (l1 : Int32) (l2 : Int32) : Prop :=
  CS (sX10_directionX E) [aI l2] h (kI fun x1 h2 => CS (sX10_directionY E) [aI l2] h2 (kI fun x4 h5 => rdP h5 l0 10 5 fun x8 => CV (sX8_x E) x8 8 [aI l1] h5 (kI fun x9 h10 => rdP h10 l0 10 5 fun x12 => CV (sX8_y E) x12 8 [aI l1] h10 (kI fun x13 h14 => J34 h14 l0 l1 x1 x4 (0 : Int32) x9 x13))))
theorem bX10_moveItem_0 {E : EV} {X : AX} {post : Option AV → AH → Prop} (C : Cb E X cX10_moveItem RX10 8 rmX10_moveItem) (D : Cr E X (some .int) rmX10_moveItem "moveItem" post) {J34 : AH → Option Nat → Int32 → Int32 → Int32 → Int32 → Int32 → Int32 → Prop} (g34 : ∀ (h : AH) (l0 : Option Nat) (l1 : Int32) (l3 : Int32) (l4 : Int32) (l5 : Int32) (l6 : Int32) (l7 : Int32), J34 h l0 l1 l3 l4 l5 l6 l7 → Go E X 8 0 0 34 [(0, aP l0), (1, aI l1), (3, aI l3), (4, aI l4), (5, aI l5), (6, aI l6), (7, aI l7)] [] h) {h : AH} {l0 : Option Nat} {l1 : Int32} {l2 : Int32} (w : PX10_moveItem_0 E post J34 h l0 l1 l2) : Go E X 8 0 0 0 [(0, aP l0), (1, aI l1), (2, aI l2)] [] h := by
  unfold PX10_moveItem_0 at w
  refine r_iload_n C dX10_moveItem_0 rfl 2 rfl ?_
  refine r_csI (rm' := rmX10_directionX) C mX10_directionX vX10_directionX k603 [aI l2] [] rfl rfl (Nat.le_of_ble_eq_true rfl) (by decide) ⟨Nat.zero_le _, Nat.zero_le _⟩ 0 0 rfl rfl dX10_moveItem_1 w (fun x1 h2 w => ?_)
  refine r_istore_n C dX10_moveItem_4 rfl (by decide) rfl ?_
  refine r_iload_n C dX10_moveItem_5 rfl 3 rfl ?_
  refine r_csI (rm' := rmX10_directionY) C mX10_directionY vX10_directionY k608 [aI l2] [] rfl rfl (Nat.le_of_ble_eq_true rfl) (by decide) ⟨Nat.zero_le _, Nat.zero_le _⟩ 0 0 rfl rfl dX10_moveItem_6 w (fun x4 h5 w => ?_)
  refine r_istore C dX10_moveItem_9 (by decide) rfl ?_
  refine r_iconst (v := 0) C dX10_moveItem_11 rfl ?_
  refine r_istore C dX10_moveItem_12 (by decide) rfl ?_
  refine r_aload_n C dX10_moveItem_14 rfl 3 rfl ?_
  refine r_getP C fcX10 (f := 5) (by decide) rfl k316 dX10_moveItem_15 (w.mono fun x8 w => ?_)
  refine r_iload_n C dX10_moveItem_18 rfl 4 rfl ?_
  refine r_cvI (rm' := rmX8_x) C mX8_x vX8_x k743 [aI l1] [] rfl rfl (Nat.le_of_ble_eq_true rfl) (by decide) ⟨Nat.zero_le _, Nat.zero_le _⟩ 0 0 rfl rfl dX10_moveItem_19 w (fun x9 h10 w => ?_)
  refine r_istore C dX10_moveItem_22 (by decide) rfl ?_
  refine r_aload_n C dX10_moveItem_24 rfl 4 rfl ?_
  refine r_getP C fcX10 (f := 5) (by decide) rfl k316 dX10_moveItem_25 (w.mono fun x12 w => ?_)
  refine r_iload_n C dX10_moveItem_28 rfl 5 rfl ?_
  refine r_cvI (rm' := rmX8_y) C mX8_y vX8_y k744 [aI l1] [] rfl rfl (Nat.le_of_ble_eq_true rfl) (by decide) ⟨Nat.zero_le _, Nat.zero_le _⟩ 0 0 rfl rfl dX10_moveItem_29 w (fun x13 h14 w => ?_)
  refine r_istore C dX10_moveItem_32 (by decide) rfl ?_
  exact r_sub [5, 6, 4, 3, 2, 1, 0] rfl (g34 h14 l0 l1 x1 x4 (0 : Int32) x9 x13 w)
theorem eX10_moveItem {E : EV} {post : Option AV → AH → Prop} {h : AH} {l0 : Option Nat} {l1 : Int32} {l2 : Int32} {J34 : AH → Option Nat → Int32 → Int32 → Int32 → Int32 → Int32 → Int32 → Prop} (g34 : ∀ X : AX, Cb E X cX10_moveItem RX10 8 rmX10_moveItem → Cr E X (some .int) rmX10_moveItem "moveItem" post → ∀ (h : AH) (l0 : Option Nat) (l1 : Int32) (l3 : Int32) (l4 : Int32) (l5 : Int32) (l6 : Int32) (l7 : Int32), J34 h l0 l1 l3 l4 l5 l6 l7 → Go E X 8 0 0 34 [(0, aP l0), (1, aI l1), (3, aI l3), (4, aI l4), (5, aI l5), (6, aI l6), (7, aI l7)] [] h) (w : PX10_moveItem_0 E post J34 h l0 l1 l2) : sX10_moveItem E [aP l0, aI l1, aI l2] h post := Spec.of RX10 rfl rfl (Nat.le_of_ble_eq_true rfl) fun X C D => bX10_moveItem_0 C D (g34 X C D) w
theorem dX10_compact_0 : decode cX10_compact 0 = .ok (.aload_n 0, 1) := by decide +kernel
theorem dX10_compact_1 : decode cX10_compact 1 = .ok (.getfield 56, 3) := by decide +kernel
theorem dX10_compact_4 : decode cX10_compact 4 = .ok (.aload_n 0, 1) := by decide +kernel
theorem dX10_compact_5 : decode cX10_compact 5 = .ok (.getfield 52, 3) := by decide +kernel
theorem dX10_compact_8 : decode cX10_compact 8 = .ok (.invokevirtual 209, 3) := by decide +kernel
theorem dX10_compact_11 : decode cX10_compact 11 = .ok (.iconst 0, 1) := by decide +kernel
theorem dX10_compact_12 : decode cX10_compact 12 = .ok (.istore_n 1, 1) := by decide +kernel
theorem dX10_compact_13 : decode cX10_compact 13 = .ok (.iconst 1, 1) := by decide +kernel
theorem dX10_compact_14 : decode cX10_compact 14 = .ok (.istore_n 2, 1) := by decide +kernel
theorem dX10_compact_15 : decode cX10_compact 15 = .ok (.iconst 0, 1) := by decide +kernel
theorem dX10_compact_16 : decode cX10_compact 16 = .ok (.istore_n 3, 1) := by decide +kernel
theorem dX10_compact_17 : decode cX10_compact 17 = .ok (.iload_n 3, 1) := by decide +kernel
theorem dX10_compact_18 : decode cX10_compact 18 = .ok (.ldc_w 270, 3) := by decide +kernel
theorem dX10_compact_21 : decode cX10_compact 21 = .ok (.if_icmp .ge 83, 3) := by decide +kernel
theorem dX10_compact_24 : decode cX10_compact 24 = .ok (.iload_n 2, 1) := by decide +kernel
theorem dX10_compact_25 : decode cX10_compact 25 = .ok (.ifCond .le 79, 3) := by decide +kernel
theorem dX10_compact_28 : decode cX10_compact 28 = .ok (.iconst 0, 1) := by decide +kernel
theorem dX10_compact_29 : decode cX10_compact 29 = .ok (.istore_n 2, 1) := by decide +kernel
theorem dX10_compact_30 : decode cX10_compact 30 = .ok (.iconst 0, 1) := by decide +kernel
theorem dX10_compact_31 : decode cX10_compact 31 = .ok (.istore 4, 2) := by decide +kernel
theorem dX10_compact_33 : decode cX10_compact 33 = .ok (.iload 4, 2) := by decide +kernel
theorem dX10_compact_35 : decode cX10_compact 35 = .ok (.aload_n 0, 1) := by decide +kernel
theorem dX10_compact_36 : decode cX10_compact 36 = .ok (.getfield 52, 3) := by decide +kernel
theorem dX10_compact_39 : decode cX10_compact 39 = .ok (.getfield 218, 3) := by decide +kernel
theorem dX10_compact_42 : decode cX10_compact 42 = .ok (.if_icmp .ge 52, 3) := by decide +kernel
theorem dX10_compact_45 : decode cX10_compact 45 = .ok (.aload_n 0, 1) := by decide +kernel
theorem dX10_compact_46 : decode cX10_compact 46 = .ok (.getfield 43, 3) := by decide +kernel
theorem dX10_compact_49 : decode cX10_compact 49 = .ok (.aload_n 0, 1) := by decide +kernel
theorem dX10_compact_50 : decode cX10_compact 50 = .ok (.getfield 52, 3) := by decide +kernel
theorem dX10_compact_53 : decode cX10_compact 53 = .ok (.aload_n 0, 1) := by decide +kernel
theorem dX10_compact_54 : decode cX10_compact 54 = .ok (.getfield 52, 3) := by decide +kernel
theorem dX10_compact_57 : decode cX10_compact 57 = .ok (.iload 4, 2) := by decide +kernel
theorem dX10_compact_59 : decode cX10_compact 59 = .ok (.invokevirtual 261, 3) := by decide +kernel
theorem dX10_compact_62 : decode cX10_compact 62 = .ok (.iload 4, 2) := by decide +kernel
theorem dX10_compact_64 : decode cX10_compact 64 = .ok (.invokevirtual 263, 3) := by decide +kernel
theorem dX10_compact_67 : decode cX10_compact 67 = .ok (.iload_n 2, 1) := by decide +kernel
theorem dX10_compact_68 : decode cX10_compact 68 = .ok (.aload_n 0, 1) := by decide +kernel
theorem dX10_compact_69 : decode cX10_compact 69 = .ok (.iload 4, 2) := by decide +kernel
theorem dX10_compact_71 : decode cX10_compact 71 = .ok (.bipush 6, 2) := by decide +kernel
theorem dX10_compact_73 : decode cX10_compact 73 = .ok (.invokevirtual 267, 3) := by decide +kernel
theorem dX10_compact_76 : decode cX10_compact 76 = .ok (.iadd, 1) := by decide +kernel
theorem dX10_compact_77 : decode cX10_compact 77 = .ok (.istore_n 2, 1) := by decide +kernel
theorem dX10_compact_78 : decode cX10_compact 78 = .ok (.iload_n 2, 1) := by decide +kernel
theorem dX10_compact_79 : decode cX10_compact 79 = .ok (.aload_n 0, 1) := by decide +kernel
theorem dX10_compact_80 : decode cX10_compact 80 = .ok (.iload 4, 2) := by decide +kernel
theorem dX10_compact_82 : decode cX10_compact 82 = .ok (.iconst 4, 1) := by decide +kernel
theorem dX10_compact_83 : decode cX10_compact 83 = .ok (.invokevirtual 267, 3) := by decide +kernel
theorem dX10_compact_86 : decode cX10_compact 86 = .ok (.iadd, 1) := by decide +kernel
theorem dX10_compact_87 : decode cX10_compact 87 = .ok (.istore_n 2, 1) := by decide +kernel
theorem dX10_compact_88 : decode cX10_compact 88 = .ok (.iinc 4 1, 3) := by decide +kernel
theorem dX10_compact_91 : decode cX10_compact 91 = .ok (.goto (-58), 3) := by decide +kernel
theorem dX10_compact_94 : decode cX10_compact 94 = .ok (.iload_n 1, 1) := by decide +kernel
theorem dX10_compact_95 : decode cX10_compact 95 = .ok (.iload_n 2, 1) := by decide +kernel
theorem dX10_compact_96 : decode cX10_compact 96 = .ok (.iadd, 1) := by decide +kernel
theorem dX10_compact_97 : decode cX10_compact 97 = .ok (.istore_n 1, 1) := by decide +kernel
theorem dX10_compact_98 : decode cX10_compact 98 = .ok (.iinc 3 1, 3) := by decide +kernel
theorem dX10_compact_101 : decode cX10_compact 101 = .ok (.goto (-84), 3) := by decide +kernel
theorem dX10_compact_104 : decode cX10_compact 104 = .ok (.iload_n 1, 1) := by decide +kernel
theorem dX10_compact_105 : decode cX10_compact 105 = .ok (.ifCond .ne 6, 3) := by decide +kernel
theorem dX10_compact_108 : decode cX10_compact 108 = .ok (.ldc 160, 2) := by decide +kernel
theorem dX10_compact_110 : decode cX10_compact 110 = .ok (.ireturn, 1) := by decide +kernel
theorem dX10_compact_111 : decode cX10_compact 111 = .ok (.aload_n 0, 1) := by decide +kernel
theorem dX10_compact_112 : decode cX10_compact 112 = .ok (.getfield 62, 3) := by decide +kernel
theorem dX10_compact_115 : decode cX10_compact 115 = .ok (.aload_n 0, 1) := by decide +kernel
theorem dX10_compact_116 : decode cX10_compact 116 = .ok (.getfield 56, 3) := by decide +kernel
theorem dX10_compact_119 : decode cX10_compact 119 = .ok (.invokevirtual 125, 3) := by decide +kernel
theorem dX10_compact_122 : decode cX10_compact 122 = .ok (.iload_n 1, 1) := by decide +kernel
theorem dX10_compact_123 : decode cX10_compact 123 = .ok (.ireturn, 1) := by decide +kernel
abbrev rmX10_compact : Room := { frames := 5, cells := 0, slots := 0, locals := 200 }
abbrev sX10_compact (E : EV) : List AV → AH → (Option AV → AH → Prop) → Prop := Spec E yX10_compact cX10_compact 5 (some .int) rmX10_compact
theorem mX10_compact : Mt yX10_compact cX10_compact 5 (some .int) 0 := ⟨k847, k1, by decide +kernel⟩
theorem vX10_compact : MtV yX10_compact 10 := ⟨k845, k846, by decide, (RX10, TX10, 12), rfl, rfl⟩
def PX10_compact_104 (E : EV) (post : Option AV → AH → Prop) (h : AH) (l0 : Option Nat) (l1 : Int32) : Prop :=
  (¬ l1 = 0 → rdP h l0 10 7 fun x1 => rdP h l0 10 6 fun x2 => CV (sX1_save E) x1 1 [aP x2] h (kV fun h4 => post (some (aI l1)) h4)) ∧ (l1 = 0 → post (some (aI (-1000009 : Int32))) h)
theorem bX10_compact_104 {E : EV} {X : AX} {post : Option AV → AH → Prop} (C : Cb E X cX10_compact RX10 5 rmX10_compact) (D : Cr E X (some .int) rmX10_compact "compact" post) {h : AH} {l0 : Option Nat} {l1 : Int32} (w : PX10_compact_104 E post h l0 l1) : Go E X 5 0 0 104 [(0, aP l0), (1, aI l1)] [] h := by
  unfold PX10_compact_104 at w
  refine r_iload_n C dX10_compact_104 rfl 1 rfl ?_
  refine r_if_ne C dX10_compact_105 (tgt := 111) rfl (fun hc => ?_) (fun hc => ?_)
  · have w := w.1 hc
    refine r_aload_n C dX10_compact_111 rfl 0 rfl ?_
    refine r_getP C fcX10 (f := 7) (by decide) rfl k318 dX10_compact_112 (w.mono fun x1 w => ?_)
    refine r_aload_n C dX10_compact_115 rfl 0 rfl ?_
    refine r_getP C fcX10 (f := 6) (by decide) rfl k317 dX10_compact_116 (w.mono fun x2 w => ?_)
    refine r_cvV (rm' := rmX1_save) C mX1_save vX1_save k489 [aP x2] [] rfl rfl (Nat.le_of_ble_eq_true rfl) (by decide) ⟨Nat.zero_le _, Nat.zero_le _⟩ 0 0 rfl rfl dX10_compact_119 w (fun h4 w => ?_)
    refine r_iload_n C dX10_compact_122 rfl 1 rfl ?_
    exact r_iret C D rfl (Nat.zero_le _) (Nat.zero_le _) dX10_compact_123 w
  · have w := w.2 hc
    refine r_ldc (v := -1000009) C dX10_compact_108 k593 ?_
    exact r_iret C D rfl (Nat.zero_le _) (Nat.zero_le _) dX10_compact_110 w
def PX10_compact_33 (E : EV) (post : Option AV → AH → Prop) (J17 : AH → Option Nat → Int32 → Int32 → Int32 → Prop) (J33 : AH → Option Nat → Int32 → Int32 → Int32 → Int32 → Prop) (h : AH) (l0 : Option Nat) (l1 : Int32) (l2 : Int32) (l3 : Int32) (l4 : Int32) : Prop :=
  rdP h l0 10 5 fun x1 => rdI h x1 8 5 fun x2 => (x2 ≤ l4 → ∀ v3, v3 = (l1 + l2) → J17 h l0 v3 l2 (l3 + (1 : Int32))) ∧ (¬ x2 ≤ l4 → rdP h l0 10 4 fun x3 => rdP h l0 10 5 fun x4 => rdP h l0 10 5 fun x5 => CV (sX8_shape E) x5 8 [aI l4] h (kP fun x6 h7 => CV (sX4_prepare E) x3 4 [aP x4, aP x6, aI l4] h7 (kV fun h9 => CV (sX10_moveItem E) l0 10 [aI l4, aI (6 : Int32)] h9 (kI fun x10 h11 => ∀ v12, v12 = (l2 + x10) → CV (sX10_moveItem E) l0 10 [aI l4, aI (4 : Int32)] h11 (kI fun x13 h14 => ∀ v15, v15 = (v12 + x13) → J33 h14 l0 l1 v15 l3 (l4 + (1 : Int32)))))))
theorem bX10_compact_33 {E : EV} {X : AX} {post : Option AV → AH → Prop} (C : Cb E X cX10_compact RX10 5 rmX10_compact) (D : Cr E X (some .int) rmX10_compact "compact" post) {J17 : AH → Option Nat → Int32 → Int32 → Int32 → Prop} (g17 : ∀ (h : AH) (l0 : Option Nat) (l1 : Int32) (l2 : Int32) (l3 : Int32), J17 h l0 l1 l2 l3 → Go E X 5 0 0 17 [(0, aP l0), (1, aI l1), (2, aI l2), (3, aI l3)] [] h) {J33 : AH → Option Nat → Int32 → Int32 → Int32 → Int32 → Prop} (g33 : ∀ (h : AH) (l0 : Option Nat) (l1 : Int32) (l2 : Int32) (l3 : Int32) (l4 : Int32), J33 h l0 l1 l2 l3 l4 → Go E X 5 0 0 33 [(0, aP l0), (1, aI l1), (2, aI l2), (3, aI l3), (4, aI l4)] [] h) {h : AH} {l0 : Option Nat} {l1 : Int32} {l2 : Int32} {l3 : Int32} {l4 : Int32} (w : PX10_compact_33 E post J17 J33 h l0 l1 l2 l3 l4) : Go E X 5 0 0 33 [(0, aP l0), (1, aI l1), (2, aI l2), (3, aI l3), (4, aI l4)] [] h := by
  unfold PX10_compact_33 at w
  refine r_iload C dX10_compact_33 4 rfl ?_
  refine r_aload_n C dX10_compact_35 rfl 0 rfl ?_
  refine r_getP C fcX10 (f := 5) (by decide) rfl k316 dX10_compact_36 (w.mono fun x1 w => ?_)
  refine r_getI C fcX8 (f := 5) (by decide) rfl k261 dX10_compact_39 (w.mono fun x2 w => ?_)
  refine r_icmp_ge C dX10_compact_42 (tgt := 94) rfl (fun hc => ?_) (fun hc => ?_)
  · have w := w.1 hc
    refine r_iload_n C dX10_compact_94 rfl 1 rfl ?_
    refine r_iload_n C dX10_compact_95 rfl 2 rfl ?_
    refine r_iadd C dX10_compact_96 ?_
    refine r_istore_n C dX10_compact_97 rfl (by decide) rfl ?_
    have w := w _ rfl
    skip
    refine r_iinc C dX10_compact_98 3 rfl (v := 1) rfl (by decide) rfl ?_
    refine r_goto C dX10_compact_101 (tgt := 17) rfl ?_
    exact r_sub [2, 1, 3, 0] rfl (g17 h l0 (l1 + l2) l2 (l3 + (1 : Int32)) w)
  · have w := w.2 hc
    refine r_aload_n C dX10_compact_45 rfl 0 rfl ?_
    refine r_getP C fcX10 (f := 4) (by decide) rfl k315 dX10_compact_46 (w.mono fun x3 w => ?_)
    refine r_aload_n C dX10_compact_49 rfl 0 rfl ?_
    refine r_getP C fcX10 (f := 5) (by decide) rfl k316 dX10_compact_50 (w.mono fun x4 w => ?_)
    refine r_aload_n C dX10_compact_53 rfl 0 rfl ?_
    refine r_getP C fcX10 (f := 5) (by decide) rfl k316 dX10_compact_54 (w.mono fun x5 w => ?_)
    refine r_iload C dX10_compact_57 4 rfl ?_
    refine r_cvP (rm' := rmX8_shape) C mX8_shape vX8_shape k725 [aI l4] [aP x4, aP x3] rfl rfl (Nat.le_of_ble_eq_true rfl) (by decide) ⟨Nat.zero_le _, Nat.zero_le _⟩ 0 0 rfl rfl dX10_compact_59 w (fun x6 h7 w => ?_)
    refine r_iload C dX10_compact_62 4 rfl ?_
    refine r_cvV (rm' := rmX4_prepare) C mX4_prepare vX4_prepare k726 [aP x4, aP x6, aI l4] [] rfl rfl (Nat.le_of_ble_eq_true rfl) (by decide) ⟨Nat.zero_le _, Nat.zero_le _⟩ 0 0 rfl rfl dX10_compact_64 w (fun h9 w => ?_)
    refine r_iload_n C dX10_compact_67 rfl 2 rfl ?_
    refine r_aload_n C dX10_compact_68 rfl 0 rfl ?_
    refine r_iload C dX10_compact_69 4 rfl ?_
    refine r_bipush (v := 6) C dX10_compact_71 rfl ?_
    refine r_cvI (rm' := rmX10_moveItem) C mX10_moveItem vX10_moveItem k838 [aI l4, aI (6 : Int32)] [aI l2] rfl rfl (Nat.le_of_ble_eq_true rfl) (by decide) ⟨Nat.zero_le _, Nat.zero_le _⟩ 0 0 rfl rfl dX10_compact_73 w (fun x10 h11 w => ?_)
    refine r_iadd C dX10_compact_76 ?_
    refine r_istore_n C dX10_compact_77 rfl (by decide) rfl ?_
    have w := w _ rfl
    skip
    refine r_iload_n C dX10_compact_78 rfl 0 rfl ?_
    refine r_aload_n C dX10_compact_79 rfl 1 rfl ?_
    refine r_iload C dX10_compact_80 4 rfl ?_
    refine r_iconst (v := 4) C dX10_compact_82 rfl ?_
    refine r_cvI (rm' := rmX10_moveItem) C mX10_moveItem vX10_moveItem k838 [aI l4, aI (4 : Int32)] [aI (l2 + x10)] rfl rfl (Nat.le_of_ble_eq_true rfl) (by decide) ⟨Nat.zero_le _, Nat.zero_le _⟩ 0 0 rfl rfl dX10_compact_83 w (fun x13 h14 w => ?_)
    refine r_iadd C dX10_compact_86 ?_
    refine r_istore_n C dX10_compact_87 rfl (by decide) rfl ?_
    have w := w _ rfl
    skip
    refine r_iinc C dX10_compact_88 4 rfl (v := 1) rfl (by decide) rfl ?_
    refine r_goto C dX10_compact_91 (tgt := 33) rfl ?_
    exact r_sub [2, 3, 1, 4, 0] rfl (g33 h14 l0 l1 ((l2 + x10) + x13) l3 (l4 + (1 : Int32)) w)
theorem lpX10_compact_33 {E : EV} {X : AX} {post : Option AV → AH → Prop} (C : Cb E X cX10_compact RX10 5 rmX10_compact) (D : Cr E X (some .int) rmX10_compact "compact" post) {J17 : AH → Option Nat → Int32 → Int32 → Int32 → Prop} (g17 : ∀ (h : AH) (l0 : Option Nat) (l1 : Int32) (l2 : Int32) (l3 : Int32), J17 h l0 l1 l2 l3 → Go E X 5 0 0 17 [(0, aP l0), (1, aI l1), (2, aI l2), (3, aI l3)] [] h) (I : Nat → AH → Option Nat → Int32 → Int32 → Int32 → Int32 → Prop) (step : ∀ (z : Nat) (h : AH) (l0 : Option Nat) (l1 : Int32) (l2 : Int32) (l3 : Int32) (l4 : Int32), I z h l0 l1 l2 l3 l4 → PX10_compact_33 E post J17 (fun h l0 l1 l2 l3 l4 => ∃ z', z' < z ∧ I z' h l0 l1 l2 l3 l4) h l0 l1 l2 l3 l4) : ∀ (z : Nat) (h : AH) (l0 : Option Nat) (l1 : Int32) (l2 : Int32) (l3 : Int32) (l4 : Int32), I z h l0 l1 l2 l3 l4 → Go E X 5 0 0 33 [(0, aP l0), (1, aI l1), (2, aI l2), (3, aI l3), (4, aI l4)] [] h := by
  intro z
  induction z using Nat.strongRecOn with
  | _ z ih =>
    intro h l0 l1 l2 l3 l4 hI
    exact bX10_compact_33 C D g17 (fun h l0 l1 l2 l3 l4 hJ => by obtain ⟨z', hz, hi⟩ := hJ; exact ih z' hz h l0 l1 l2 l3 l4 hi) (step z h l0 l1 l2 l3 l4 hI)
def PX10_compact_17 (E : EV) (post : Option AV → AH → Prop) (J33 : AH → Option Nat → Int32 → Int32 → Int32 → Int32 → Prop) (h : AH) (l0 : Option Nat) (l1 : Int32) (l2 : Int32) (l3 : Int32) : Prop :=
  ((1000000 : Int32) ≤ l3 → PX10_compact_104 E post h l0 l1) ∧ (¬ (1000000 : Int32) ≤ l3 → (l2 ≤ 0 → PX10_compact_104 E post h l0 l1) ∧ (¬ l2 ≤ 0 → J33 h l0 l1 (0 : Int32) l3 (0 : Int32)))
theorem bX10_compact_17 {E : EV} {X : AX} {post : Option AV → AH → Prop} (C : Cb E X cX10_compact RX10 5 rmX10_compact) (D : Cr E X (some .int) rmX10_compact "compact" post) {J33 : AH → Option Nat → Int32 → Int32 → Int32 → Int32 → Prop} (g33 : ∀ (h : AH) (l0 : Option Nat) (l1 : Int32) (l2 : Int32) (l3 : Int32) (l4 : Int32), J33 h l0 l1 l2 l3 l4 → Go E X 5 0 0 33 [(0, aP l0), (1, aI l1), (2, aI l2), (3, aI l3), (4, aI l4)] [] h) {h : AH} {l0 : Option Nat} {l1 : Int32} {l2 : Int32} {l3 : Int32} (w : PX10_compact_17 E post J33 h l0 l1 l2 l3) : Go E X 5 0 0 17 [(0, aP l0), (1, aI l1), (2, aI l2), (3, aI l3)] [] h := by
  unfold PX10_compact_17 at w
  refine r_iload_n C dX10_compact_17 rfl 3 rfl ?_
  refine r_ldc_w (v := 1000000) C dX10_compact_18 k842 ?_
  refine r_icmp_ge C dX10_compact_21 (tgt := 104) rfl (fun hc => ?_) (fun hc => ?_)
  · have w := w.1 hc
    exact r_sub [0, 1] rfl (bX10_compact_104 C D w)
  · have w := w.2 hc
    refine r_iload_n C dX10_compact_24 rfl 2 rfl ?_
    refine r_if_le C dX10_compact_25 (tgt := 104) rfl (fun hc => ?_) (fun hc => ?_)
    · have w := w.1 hc
      exact r_sub [0, 1] rfl (bX10_compact_104 C D w)
    · have w := w.2 hc
      refine r_iconst (v := 0) C dX10_compact_28 rfl ?_
      refine r_istore_n C dX10_compact_29 rfl (by decide) rfl ?_
      refine r_iconst (v := 0) C dX10_compact_30 rfl ?_
      refine r_istore C dX10_compact_31 (by decide) rfl ?_
      exact r_sub [2, 3, 1, 4, 0] rfl (g33 h l0 l1 (0 : Int32) l3 (0 : Int32) w)
def PX10_compact_0 (E : EV) (post : Option AV → AH → Prop) (J17 : AH → Option Nat → Int32 → Int32 → Int32 → Prop) (h : AH) (l0 : Option Nat) : Prop :=
  rdP h l0 10 6 fun x1 => rdP h l0 10 5 fun x2 => CV (sX8_copy E) x1 8 [aP x2] h (kV fun h4 => J17 h4 l0 (0 : Int32) (1 : Int32) (0 : Int32))
theorem bX10_compact_0 {E : EV} {X : AX} {post : Option AV → AH → Prop} (C : Cb E X cX10_compact RX10 5 rmX10_compact) (D : Cr E X (some .int) rmX10_compact "compact" post) {J17 : AH → Option Nat → Int32 → Int32 → Int32 → Prop} (g17 : ∀ (h : AH) (l0 : Option Nat) (l1 : Int32) (l2 : Int32) (l3 : Int32), J17 h l0 l1 l2 l3 → Go E X 5 0 0 17 [(0, aP l0), (1, aI l1), (2, aI l2), (3, aI l3)] [] h) {h : AH} {l0 : Option Nat} (w : PX10_compact_0 E post J17 h l0) : Go E X 5 0 0 0 [(0, aP l0)] [] h := by
  unfold PX10_compact_0 at w
  refine r_aload_n C dX10_compact_0 rfl 0 rfl ?_
  refine r_getP C fcX10 (f := 6) (by decide) rfl k317 dX10_compact_1 (w.mono fun x1 w => ?_)
  refine r_aload_n C dX10_compact_4 rfl 0 rfl ?_
  refine r_getP C fcX10 (f := 5) (by decide) rfl k316 dX10_compact_5 (w.mono fun x2 w => ?_)
  refine r_cvV (rm' := rmX8_copy) C mX8_copy vX8_copy k720 [aP x2] [] rfl rfl (Nat.le_of_ble_eq_true rfl) (by decide) ⟨Nat.zero_le _, Nat.zero_le _⟩ 0 0 rfl rfl dX10_compact_8 w (fun h4 w => ?_)
  refine r_iconst (v := 0) C dX10_compact_11 rfl ?_
  refine r_istore_n C dX10_compact_12 rfl (by decide) rfl ?_
  refine r_iconst (v := 1) C dX10_compact_13 rfl ?_
  refine r_istore_n C dX10_compact_14 rfl (by decide) rfl ?_
  refine r_iconst (v := 0) C dX10_compact_15 rfl ?_
  refine r_istore_n C dX10_compact_16 rfl (by decide) rfl ?_
  exact r_sub [3, 2, 1, 0] rfl (g17 h4 l0 (0 : Int32) (1 : Int32) (0 : Int32) w)
theorem eX10_compact {E : EV} {post : Option AV → AH → Prop} {h : AH} {l0 : Option Nat} {J17 : AH → Option Nat → Int32 → Int32 → Int32 → Prop} (g17 : ∀ X : AX, Cb E X cX10_compact RX10 5 rmX10_compact → Cr E X (some .int) rmX10_compact "compact" post → ∀ (h : AH) (l0 : Option Nat) (l1 : Int32) (l2 : Int32) (l3 : Int32), J17 h l0 l1 l2 l3 → Go E X 5 0 0 17 [(0, aP l0), (1, aI l1), (2, aI l2), (3, aI l3)] [] h) (w : PX10_compact_0 E post J17 h l0) : sX10_compact E [aP l0] h post := Spec.of RX10 rfl rfl (Nat.le_of_ble_eq_true rfl) fun X C D => bX10_compact_0 C D (g17 X C D) w
theorem dX10_isNear_0 : decode cX10_isNear 0 = .ok (.iload_n 0, 1) := by decide +kernel
theorem dX10_isNear_1 : decode cX10_isNear 1 = .ok (.bipush (-60), 2) := by decide +kernel
theorem dX10_isNear_3 : decode cX10_isNear 3 = .ok (.if_icmp .lt 13, 3) := by decide +kernel
theorem dX10_isNear_6 : decode cX10_isNear 6 = .ok (.iload_n 0, 1) := by decide +kernel
theorem dX10_isNear_7 : decode cX10_isNear 7 = .ok (.bipush 60, 2) := by decide +kernel
theorem dX10_isNear_9 : decode cX10_isNear 9 = .ok (.if_icmp .gt 7, 3) := by decide +kernel
theorem dX10_isNear_12 : decode cX10_isNear 12 = .ok (.iconst 1, 1) := by decide +kernel
theorem dX10_isNear_13 : decode cX10_isNear 13 = .ok (.goto 4, 3) := by decide +kernel
theorem dX10_isNear_16 : decode cX10_isNear 16 = .ok (.iconst 0, 1) := by decide +kernel
theorem dX10_isNear_17 : decode cX10_isNear 17 = .ok (.ireturn, 1) := by decide +kernel
abbrev rmX10_isNear : Room := { frames := 0, cells := 0, slots := 0, locals := 0 }
abbrev sX10_isNear (E : EV) : List AV → AH → (Option AV → AH → Prop) → Prop := Spec E yX10_isNear cX10_isNear 1 (some .boolean) rmX10_isNear
theorem mX10_isNear : Mt yX10_isNear cX10_isNear 1 (some .boolean) 1 := ⟨k651, k1, by decide +kernel⟩
theorem vX10_isNear : MtS yX10_isNear := k650
def PX10_isNear_0 (E : EV) (post : Option AV → AH → Prop) (h : AH) (l0 : Int32) : Prop :=
  (l0 < (-60 : Int32) → post (some (aI (0 : Int32))) h) ∧ (¬ l0 < (-60 : Int32) → ((60 : Int32) < l0 → post (some (aI (0 : Int32))) h) ∧ (¬ (60 : Int32) < l0 → post (some (aI (1 : Int32))) h))
theorem bX10_isNear_0 {E : EV} {X : AX} {post : Option AV → AH → Prop} (C : Cb E X cX10_isNear RX10 1 rmX10_isNear) (D : Cr E X (some .boolean) rmX10_isNear "isNear" post) {h : AH} {l0 : Int32} (w : PX10_isNear_0 E post h l0) : Go E X 1 0 0 0 [(0, aI l0)] [] h := by
  unfold PX10_isNear_0 at w
  refine r_iload_n C dX10_isNear_0 rfl 0 rfl ?_
  refine r_bipush (v := -60) C dX10_isNear_1 rfl ?_
  refine r_icmp_lt C dX10_isNear_3 (tgt := 16) rfl (fun hc => ?_) (fun hc => ?_)
  · have w := w.1 hc
    refine r_iconst (v := 0) C dX10_isNear_16 rfl ?_
    exact r_zret C D rfl (Or.inl rfl) (Nat.zero_le _) (Nat.zero_le _) dX10_isNear_17 w
  · have w := w.2 hc
    refine r_iload_n C dX10_isNear_6 rfl 0 rfl ?_
    refine r_bipush (v := 60) C dX10_isNear_7 rfl ?_
    refine r_icmp_gt C dX10_isNear_9 (tgt := 16) rfl (fun hc => ?_) (fun hc => ?_)
    · have w := w.1 hc
      refine r_iconst (v := 0) C dX10_isNear_16 rfl ?_
      exact r_zret C D rfl (Or.inl rfl) (Nat.zero_le _) (Nat.zero_le _) dX10_isNear_17 w
    · have w := w.2 hc
      refine r_iconst (v := 1) C dX10_isNear_12 rfl ?_
      refine r_goto C dX10_isNear_13 (tgt := 17) rfl ?_
      exact r_zret C D rfl (Or.inr rfl) (Nat.zero_le _) (Nat.zero_le _) dX10_isNear_17 w
theorem eX10_isNear {E : EV} {post : Option AV → AH → Prop} {h : AH} {l0 : Int32} (w : PX10_isNear_0 E post h l0) : sX10_isNear E [aI l0] h post := Spec.of RX10 rfl rfl (Nat.le_of_ble_eq_true rfl) fun X C D => bX10_isNear_0 C D w
theorem dX10_isSlotEmpty_0 : decode cX10_isSlotEmpty 0 = .ok (.aload_n 0, 1) := by decide +kernel
theorem dX10_isSlotEmpty_1 : decode cX10_isSlotEmpty 1 = .ok (.getfield 52, 3) := by decide +kernel
theorem dX10_isSlotEmpty_4 : decode cX10_isSlotEmpty 4 = .ok (.iload_n 1, 1) := by decide +kernel
theorem dX10_isSlotEmpty_5 : decode cX10_isSlotEmpty 5 = .ok (.invokevirtual 116, 3) := by decide +kernel
theorem dX10_isSlotEmpty_8 : decode cX10_isSlotEmpty 8 = .ok (.invokevirtual 120, 3) := by decide +kernel
theorem dX10_isSlotEmpty_11 : decode cX10_isSlotEmpty 11 = .ok (.ireturn, 1) := by decide +kernel
abbrev rmX10_isSlotEmpty : Room := { frames := 1, cells := 0, slots := 0, locals := 40 }
abbrev sX10_isSlotEmpty (E : EV) : List AV → AH → (Option AV → AH → Prop) → Prop := Spec E yX10_isSlotEmpty cX10_isSlotEmpty 2 (some .boolean) rmX10_isSlotEmpty
theorem mX10_isSlotEmpty : Mt yX10_isSlotEmpty cX10_isSlotEmpty 2 (some .boolean) 1 := ⟨k655, k1, by decide +kernel⟩
theorem vX10_isSlotEmpty : MtV yX10_isSlotEmpty 10 := ⟨k654, kp10, by decide, (RX10, TX10, 12), rfl, rfl⟩
def PX10_isSlotEmpty_0 (E : EV) (post : Option AV → AH → Prop) (h : AH) (l0 : Option Nat) (l1 : Int32) : Prop :=
  rdP h l0 10 5 fun x1 => CV (sX8_slot E) x1 8 [aI l1] h (kP fun x2 h3 => CV (sX6_isEmpty E) x2 6 [] h3 (kI fun x4 h5 => (x4 = 0 ∨ x4 = 1) ∧ post (some (aI x4)) h5))
theorem bX10_isSlotEmpty_0 {E : EV} {X : AX} {post : Option AV → AH → Prop} (C : Cb E X cX10_isSlotEmpty RX10 2 rmX10_isSlotEmpty) (D : Cr E X (some .boolean) rmX10_isSlotEmpty "isSlotEmpty" post) {h : AH} {l0 : Option Nat} {l1 : Int32} (w : PX10_isSlotEmpty_0 E post h l0 l1) : Go E X 2 0 0 0 [(0, aP l0), (1, aI l1)] [] h := by
  unfold PX10_isSlotEmpty_0 at w
  refine r_aload_n C dX10_isSlotEmpty_0 rfl 0 rfl ?_
  refine r_getP C fcX10 (f := 5) (by decide) rfl k316 dX10_isSlotEmpty_1 (w.mono fun x1 w => ?_)
  refine r_iload_n C dX10_isSlotEmpty_4 rfl 1 rfl ?_
  refine r_cvP (rm' := rmX8_slot) C mX8_slot vX8_slot k537 [aI l1] [] rfl rfl (Nat.le_of_ble_eq_true rfl) (by decide) ⟨Nat.zero_le _, Nat.zero_le _⟩ 0 0 rfl rfl dX10_isSlotEmpty_5 w (fun x2 h3 w => ?_)
  refine r_cvI (rm' := rmX6_isEmpty) C mX6_isEmpty vX6_isEmpty k538 [] [] rfl rfl (Nat.le_of_ble_eq_true rfl) (by decide) ⟨Nat.zero_le _, Nat.zero_le _⟩ 0 0 rfl rfl dX10_isSlotEmpty_8 w (fun x4 h5 w => ?_)
  exact r_zret C D rfl w.1 (Nat.zero_le _) (Nat.zero_le _) dX10_isSlotEmpty_11 w.2
theorem eX10_isSlotEmpty {E : EV} {post : Option AV → AH → Prop} {h : AH} {l0 : Option Nat} {l1 : Int32} (w : PX10_isSlotEmpty_0 E post h l0 l1) : sX10_isSlotEmpty E [aP l0, aI l1] h post := Spec.of RX10 rfl rfl (Nat.le_of_ble_eq_true rfl) fun X C D => bX10_isSlotEmpty_0 C D w
theorem dX10_contact_0 : decode cX10_contact 0 = .ok (.iload_n 1, 1) := by decide +kernel
theorem dX10_contact_1 : decode cX10_contact 1 = .ok (.invokestatic 98, 3) := by decide +kernel
theorem dX10_contact_4 : decode cX10_contact 4 = .ok (.ifCond .eq 25, 3) := by decide +kernel
theorem dX10_contact_7 : decode cX10_contact 7 = .ok (.iload_n 2, 1) := by decide +kernel
theorem dX10_contact_8 : decode cX10_contact 8 = .ok (.invokestatic 98, 3) := by decide +kernel
theorem dX10_contact_11 : decode cX10_contact 11 = .ok (.ifCond .eq 18, 3) := by decide +kernel
theorem dX10_contact_14 : decode cX10_contact 14 = .ok (.iload_n 3, 1) := by decide +kernel
theorem dX10_contact_15 : decode cX10_contact 15 = .ok (.invokestatic 185, 3) := by decide +kernel
theorem dX10_contact_18 : decode cX10_contact 18 = .ok (.ifCond .eq 11, 3) := by decide +kernel
theorem dX10_contact_21 : decode cX10_contact 21 = .ok (.iload 4, 2) := by decide +kernel
theorem dX10_contact_23 : decode cX10_contact 23 = .ok (.invokestatic 185, 3) := by decide +kernel
theorem dX10_contact_26 : decode cX10_contact 26 = .ok (.ifCond .ne 6, 3) := by decide +kernel
theorem dX10_contact_29 : decode cX10_contact 29 = .ok (.ldc 88, 2) := by decide +kernel
theorem dX10_contact_31 : decode cX10_contact 31 = .ok (.ireturn, 1) := by decide +kernel
theorem dX10_contact_32 : decode cX10_contact 32 = .ok (.aload_n 0, 1) := by decide +kernel
theorem dX10_contact_33 : decode cX10_contact 33 = .ok (.iload_n 1, 1) := by decide +kernel
theorem dX10_contact_34 : decode cX10_contact 34 = .ok (.invokevirtual 188, 3) := by decide +kernel
theorem dX10_contact_37 : decode cX10_contact 37 = .ok (.ifCond .ne 11, 3) := by decide +kernel
theorem dX10_contact_40 : decode cX10_contact 40 = .ok (.aload_n 0, 1) := by decide +kernel
theorem dX10_contact_41 : decode cX10_contact 41 = .ok (.iload_n 2, 1) := by decide +kernel
theorem dX10_contact_42 : decode cX10_contact 42 = .ok (.invokevirtual 188, 3) := by decide +kernel
theorem dX10_contact_45 : decode cX10_contact 45 = .ok (.ifCond .eq 6, 3) := by decide +kernel
theorem dX10_contact_48 : decode cX10_contact 48 = .ok (.ldc 124, 2) := by decide +kernel
theorem dX10_contact_50 : decode cX10_contact 50 = .ok (.ireturn, 1) := by decide +kernel
theorem dX10_contact_51 : decode cX10_contact 51 = .ok (.aload_n 0, 1) := by decide +kernel
theorem dX10_contact_52 : decode cX10_contact 52 = .ok (.getfield 36, 3) := by decide +kernel
theorem dX10_contact_55 : decode cX10_contact 55 = .ok (.aload_n 0, 1) := by decide +kernel
theorem dX10_contact_56 : decode cX10_contact 56 = .ok (.getfield 52, 3) := by decide +kernel
theorem dX10_contact_59 : decode cX10_contact 59 = .ok (.iload_n 1, 1) := by decide +kernel
theorem dX10_contact_60 : decode cX10_contact 60 = .ok (.invokevirtual 116, 3) := by decide +kernel
theorem dX10_contact_63 : decode cX10_contact 63 = .ok (.aload_n 0, 1) := by decide +kernel
theorem dX10_contact_64 : decode cX10_contact 64 = .ok (.getfield 52, 3) := by decide +kernel
theorem dX10_contact_67 : decode cX10_contact 67 = .ok (.iload_n 2, 1) := by decide +kernel
theorem dX10_contact_68 : decode cX10_contact 68 = .ok (.invokevirtual 116, 3) := by decide +kernel
theorem dX10_contact_71 : decode cX10_contact 71 = .ok (.iload_n 3, 1) := by decide +kernel
theorem dX10_contact_72 : decode cX10_contact 72 = .ok (.iload 4, 2) := by decide +kernel
theorem dX10_contact_74 : decode cX10_contact 74 = .ok (.invokevirtual 191, 3) := by decide +kernel
theorem dX10_contact_77 : decode cX10_contact 77 = .ok (.ireturn, 1) := by decide +kernel
abbrev rmX10_contact : Room := { frames := 5, cells := 0, slots := 0, locals := 200 }
abbrev sX10_contact (E : EV) : List AV → AH → (Option AV → AH → Prop) → Prop := Spec E yX10_contact cX10_contact 5 (some .int) rmX10_contact
theorem mX10_contact : Mt yX10_contact cX10_contact 5 (some .int) 4 := ⟨k648, k1, by decide +kernel⟩
theorem vX10_contact : MtV yX10_contact 10 := ⟨k646, k647, by decide, (RX10, TX10, 12), rfl, rfl⟩
def PX10_contact_0 (E : EV) (post : Option AV → AH → Prop) (h : AH) (l0 : Option Nat) (l1 : Int32) (l2 : Int32) (l3 : Int32) (l4 : Int32) : Prop :=
  CS (sX10_isSlot E) [aI l1] h (kI fun x1 h2 => (x1 = 0 → post (some (aI (-1000001 : Int32))) h2) ∧ (¬ x1 = 0 → CS (sX10_isSlot E) [aI l2] h2 (kI fun x3 h4 => (x3 = 0 → post (some (aI (-1000001 : Int32))) h4) ∧ (¬ x3 = 0 → CS (sX10_isNear E) [aI l3] h4 (kI fun x5 h6 => (x5 = 0 → post (some (aI (-1000001 : Int32))) h6) ∧ (¬ x5 = 0 → CS (sX10_isNear E) [aI l4] h6 (kI fun x7 h8 => (¬ x7 = 0 → CV (sX10_isSlotEmpty E) l0 10 [aI l1] h8 (kI fun x9 h10 => (¬ x9 = 0 → post (some (aI (-1000002 : Int32))) h10) ∧ (x9 = 0 → CV (sX10_isSlotEmpty E) l0 10 [aI l2] h10 (kI fun x11 h12 => (x11 = 0 → rdP h12 l0 10 3 fun x13 => rdP h12 l0 10 5 fun x14 => CV (sX8_slot E) x14 8 [aI l1] h12 (kP fun x15 h16 => rdP h16 l0 10 5 fun x17 => CV (sX8_slot E) x17 8 [aI l2] h16 (kP fun x18 h19 => CV (sX3_relation E) x13 3 [aP x15, aP x18, aI l3, aI l4] h19 (kI fun x20 h21 => post (some (aI x20)) h21)))) ∧ (¬ x11 = 0 → post (some (aI (-1000002 : Int32))) h12))))) ∧ (x7 = 0 → post (some (aI (-1000001 : Int32))) h8))))))))
theorem bX10_contact_0 {E : EV} {X : AX} {post : Option AV → AH → Prop} (C : Cb E X cX10_contact RX10 5 rmX10_contact) (D : Cr E X (some .int) rmX10_contact "contact" post) {h : AH} {l0 : Option Nat} {l1 : Int32} {l2 : Int32} {l3 : Int32} {l4 : Int32} (w : PX10_contact_0 E post h l0 l1 l2 l3 l4) : Go E X 5 0 0 0 [(0, aP l0), (1, aI l1), (2, aI l2), (3, aI l3), (4, aI l4)] [] h := by
  unfold PX10_contact_0 at w
  refine r_iload_n C dX10_contact_0 rfl 1 rfl ?_
  refine r_csI (rm' := rmX10_isSlot) C mX10_isSlot vX10_isSlot k366 [aI l1] [] rfl rfl (Nat.le_of_ble_eq_true rfl) (by decide) ⟨Nat.zero_le _, Nat.zero_le _⟩ 0 0 rfl rfl dX10_contact_1 w (fun x1 h2 w => ?_)
  refine r_if_eq C dX10_contact_4 (tgt := 29) rfl (fun hc => ?_) (fun hc => ?_)
  · have w := w.1 hc
    refine r_ldc (v := -1000001) C dX10_contact_29 k352 ?_
    exact r_iret C D rfl (Nat.zero_le _) (Nat.zero_le _) dX10_contact_31 w
  · have w := w.2 hc
    refine r_iload_n C dX10_contact_7 rfl 2 rfl ?_
    refine r_csI (rm' := rmX10_isSlot) C mX10_isSlot vX10_isSlot k366 [aI l2] [] rfl rfl (Nat.le_of_ble_eq_true rfl) (by decide) ⟨Nat.zero_le _, Nat.zero_le _⟩ 0 0 rfl rfl dX10_contact_8 w (fun x3 h4 w => ?_)
    refine r_if_eq C dX10_contact_11 (tgt := 29) rfl (fun hc => ?_) (fun hc => ?_)
    · have w := w.1 hc
      refine r_ldc (v := -1000001) C dX10_contact_29 k352 ?_
      exact r_iret C D rfl (Nat.zero_le _) (Nat.zero_le _) dX10_contact_31 w
    · have w := w.2 hc
      refine r_iload_n C dX10_contact_14 rfl 3 rfl ?_
      refine r_csI (rm' := rmX10_isNear) C mX10_isNear vX10_isNear k649 [aI l3] [] rfl rfl (Nat.le_of_ble_eq_true rfl) (by decide) ⟨Nat.zero_le _, Nat.zero_le _⟩ 0 0 rfl rfl dX10_contact_15 w (fun x5 h6 w => ?_)
      refine r_if_eq C dX10_contact_18 (tgt := 29) rfl (fun hc => ?_) (fun hc => ?_)
      · have w := w.1 hc
        refine r_ldc (v := -1000001) C dX10_contact_29 k352 ?_
        exact r_iret C D rfl (Nat.zero_le _) (Nat.zero_le _) dX10_contact_31 w
      · have w := w.2 hc
        refine r_iload C dX10_contact_21 4 rfl ?_
        refine r_csI (rm' := rmX10_isNear) C mX10_isNear vX10_isNear k649 [aI l4] [] rfl rfl (Nat.le_of_ble_eq_true rfl) (by decide) ⟨Nat.zero_le _, Nat.zero_le _⟩ 0 0 rfl rfl dX10_contact_23 w (fun x7 h8 w => ?_)
        refine r_if_ne C dX10_contact_26 (tgt := 32) rfl (fun hc => ?_) (fun hc => ?_)
        · have w := w.1 hc
          refine r_aload_n C dX10_contact_32 rfl 0 rfl ?_
          refine r_iload_n C dX10_contact_33 rfl 1 rfl ?_
          refine r_cvI (rm' := rmX10_isSlotEmpty) C mX10_isSlotEmpty vX10_isSlotEmpty k652 [aI l1] [] rfl rfl (Nat.le_of_ble_eq_true rfl) (by decide) ⟨Nat.zero_le _, Nat.zero_le _⟩ 0 0 rfl rfl dX10_contact_34 w (fun x9 h10 w => ?_)
          refine r_if_ne C dX10_contact_37 (tgt := 48) rfl (fun hc => ?_) (fun hc => ?_)
          · have w := w.1 hc
            refine r_ldc (v := -1000002) C dX10_contact_48 k539 ?_
            exact r_iret C D rfl (Nat.zero_le _) (Nat.zero_le _) dX10_contact_50 w
          · have w := w.2 hc
            refine r_aload_n C dX10_contact_40 rfl 0 rfl ?_
            refine r_iload_n C dX10_contact_41 rfl 2 rfl ?_
            refine r_cvI (rm' := rmX10_isSlotEmpty) C mX10_isSlotEmpty vX10_isSlotEmpty k652 [aI l2] [] rfl rfl (Nat.le_of_ble_eq_true rfl) (by decide) ⟨Nat.zero_le _, Nat.zero_le _⟩ 0 0 rfl rfl dX10_contact_42 w (fun x11 h12 w => ?_)
            refine r_if_eq C dX10_contact_45 (tgt := 51) rfl (fun hc => ?_) (fun hc => ?_)
            · have w := w.1 hc
              refine r_aload_n C dX10_contact_51 rfl 0 rfl ?_
              refine r_getP C fcX10 (f := 3) (by decide) rfl k314 dX10_contact_52 (w.mono fun x13 w => ?_)
              refine r_aload_n C dX10_contact_55 rfl 0 rfl ?_
              refine r_getP C fcX10 (f := 5) (by decide) rfl k316 dX10_contact_56 (w.mono fun x14 w => ?_)
              refine r_iload_n C dX10_contact_59 rfl 1 rfl ?_
              refine r_cvP (rm' := rmX8_slot) C mX8_slot vX8_slot k537 [aI l1] [aP x13] rfl rfl (Nat.le_of_ble_eq_true rfl) (by decide) ⟨Nat.zero_le _, Nat.zero_le _⟩ 0 0 rfl rfl dX10_contact_60 w (fun x15 h16 w => ?_)
              refine r_aload_n C dX10_contact_63 rfl 0 rfl ?_
              refine r_getP C fcX10 (f := 5) (by decide) rfl k316 dX10_contact_64 (w.mono fun x17 w => ?_)
              refine r_iload_n C dX10_contact_67 rfl 2 rfl ?_
              refine r_cvP (rm' := rmX8_slot) C mX8_slot vX8_slot k537 [aI l2] [aP x15, aP x13] rfl rfl (Nat.le_of_ble_eq_true rfl) (by decide) ⟨Nat.zero_le _, Nat.zero_le _⟩ 0 0 rfl rfl dX10_contact_68 w (fun x18 h19 w => ?_)
              refine r_iload_n C dX10_contact_71 rfl 3 rfl ?_
              refine r_iload C dX10_contact_72 4 rfl ?_
              refine r_cvI (rm' := rmX3_relation) C mX3_relation vX3_relation k656 [aP x15, aP x18, aI l3, aI l4] [] rfl rfl (Nat.le_of_ble_eq_true rfl) (by decide) ⟨Nat.zero_le _, Nat.zero_le _⟩ 0 0 rfl rfl dX10_contact_74 w (fun x20 h21 w => ?_)
              exact r_iret C D rfl (Nat.zero_le _) (Nat.zero_le _) dX10_contact_77 w
            · have w := w.2 hc
              refine r_ldc (v := -1000002) C dX10_contact_48 k539 ?_
              exact r_iret C D rfl (Nat.zero_le _) (Nat.zero_le _) dX10_contact_50 w
        · have w := w.2 hc
          refine r_ldc (v := -1000001) C dX10_contact_29 k352 ?_
          exact r_iret C D rfl (Nat.zero_le _) (Nat.zero_le _) dX10_contact_31 w
theorem eX10_contact {E : EV} {post : Option AV → AH → Prop} {h : AH} {l0 : Option Nat} {l1 : Int32} {l2 : Int32} {l3 : Int32} {l4 : Int32} (w : PX10_contact_0 E post h l0 l1 l2 l3 l4) : sX10_contact E [aP l0, aI l1, aI l2, aI l3, aI l4] h post := Spec.of RX10 rfl rfl (Nat.le_of_ble_eq_true rfl) fun X C D => bX10_contact_0 C D w
theorem dX10_storeTurned_0 : decode cX10_storeTurned 0 = .ok (.new 7, 3) := by decide +kernel
theorem dX10_storeTurned_3 : decode cX10_storeTurned 3 = .ok (.dup, 1) := by decide +kernel
theorem dX10_storeTurned_4 : decode cX10_storeTurned 4 = .ok (.invokespecial 9, 3) := by decide +kernel
theorem dX10_storeTurned_7 : decode cX10_storeTurned 7 = .ok (.astore 4, 2) := by decide +kernel
theorem dX10_storeTurned_9 : decode cX10_storeTurned 9 = .ok (.aload 4, 2) := by decide +kernel
theorem dX10_storeTurned_11 : decode cX10_storeTurned 11 = .ok (.aload_n 1, 1) := by decide +kernel
theorem dX10_storeTurned_12 : decode cX10_storeTurned 12 = .ok (.iload_n 3, 1) := by decide +kernel
theorem dX10_storeTurned_13 : decode cX10_storeTurned 13 = .ok (.invokevirtual 244, 3) := by decide +kernel
theorem dX10_storeTurned_16 : decode cX10_storeTurned 16 = .ok (.aload_n 0, 1) := by decide +kernel
theorem dX10_storeTurned_17 : decode cX10_storeTurned 17 = .ok (.getfield 62, 3) := by decide +kernel
theorem dX10_storeTurned_20 : decode cX10_storeTurned 20 = .ok (.aload_n 0, 1) := by decide +kernel
theorem dX10_storeTurned_21 : decode cX10_storeTurned 21 = .ok (.getfield 52, 3) := by decide +kernel
theorem dX10_storeTurned_24 : decode cX10_storeTurned 24 = .ok (.invokevirtual 125, 3) := by decide +kernel
theorem dX10_storeTurned_27 : decode cX10_storeTurned 27 = .ok (.aload_n 0, 1) := by decide +kernel
theorem dX10_storeTurned_28 : decode cX10_storeTurned 28 = .ok (.getfield 52, 3) := by decide +kernel
theorem dX10_storeTurned_31 : decode cX10_storeTurned 31 = .ok (.iload_n 2, 1) := by decide +kernel
theorem dX10_storeTurned_32 : decode cX10_storeTurned 32 = .ok (.aload 4, 2) := by decide +kernel
theorem dX10_storeTurned_34 : decode cX10_storeTurned 34 = .ok (.invokevirtual 132, 3) := by decide +kernel
theorem dX10_storeTurned_37 : decode cX10_storeTurned 37 = .ok (.aload 4, 2) := by decide +kernel
theorem dX10_storeTurned_39 : decode cX10_storeTurned 39 = .ok (.getfield 136, 3) := by decide +kernel
theorem dX10_storeTurned_42 : decode cX10_storeTurned 42 = .ok (.ireturn, 1) := by decide +kernel
abbrev rmX10_storeTurned : Room := { frames := 4, cells := 4, slots := 50, locals := 160 }
abbrev sX10_storeTurned (E : EV) : List AV → AH → (Option AV → AH → Prop) → Prop := Spec E yX10_storeTurned cX10_storeTurned 5 (some .int) rmX10_storeTurned
theorem mX10_storeTurned : Mt yX10_storeTurned cX10_storeTurned 5 (some .int) 3 := ⟨k465, k1, by decide +kernel⟩
theorem vX10_storeTurned : MtV yX10_storeTurned 10 := ⟨k464, kp4, by decide, (RX10, TX10, 12), rfl, rfl⟩
def PX10_storeTurned_0 (E : EV) (post : Option AV → AH → Prop) (k n : Nat) (h : AH) (l0 : Option Nat) (l1 : Option Nat) (l2 : Int32) (l3 : Int32) : Prop :=
  (k + 1 ≤ 4 ∧ n + 9 ≤ 50) ∧ (∀ h1, h1 = h ++ [.inr (6, [aP none, aP none, aP none, aI 0, aI 0, aI 0, aI 0, aI 0, aI 0])] → ((k + 1) + 3 ≤ 4 ∧ (n + 9) + 40 ≤ 50) ∧ CS (sX6_init E) [aP (some h.length)] h1 (kV fun h3 => (((k + 1) + 3) ≤ 4 ∧ ((n + 9) + 40) ≤ 50) ∧ CV (sX6_setTurned E) (some h.length) 6 [aP l1, aI l3] h3 (kV fun h6 => rdP h6 l0 10 7 fun x7 => rdP h6 l0 10 5 fun x8 => (((k + 1) + 3) ≤ 4 ∧ ((n + 9) + 40) ≤ 50) ∧ CV (sX1_save E) x7 1 [aP x8] h6 (kV fun h10 => rdP h10 l0 10 5 fun x11 => (((k + 1) + 3) ≤ 4 ∧ ((n + 9) + 40) ≤ 50) ∧ CV (sX8_setSlot E) x11 8 [aI l2, aP (some h.length)] h10 (kV fun h13 => rdI h13 (some h.length) 6 3 fun x14 => (((k + 1) + 3) ≤ 4 ∧ ((n + 9) + 40) ≤ 50) ∧ post (some (aI x14)) h13)))))
theorem bX10_storeTurned_0 {E : EV} {X : AX} {post : Option AV → AH → Prop} (C : Cb E X cX10_storeTurned RX10 5 rmX10_storeTurned) (D : Cr E X (some .int) rmX10_storeTurned "storeTurned" post) {k n : Nat} {h : AH} {l0 : Option Nat} {l1 : Option Nat} {l2 : Int32} {l3 : Int32} (w : PX10_storeTurned_0 E post k n h l0 l1 l2 l3) : Go E X 5 k n 0 [(0, aP l0), (1, aP l1), (2, aI l2), (3, aI l3)] [] h := by
  unfold PX10_storeTurned_0 at w
  refine r_new (fs := [aP none, aP none, aP none, aI 0, aI 0, aI 0, aI 0, aI 0, aI 0]) C fcX6 rfl df_X6 k22 k23 k2 w.1.1 w.1.2 dX10_storeTurned_0 ?_
  have w := w.2 _ rfl
  generalize h ++ [.inr (6, [aP none, aP none, aP none, aI 0, aI 0, aI 0, aI 0, aI 0, aI 0])] = h1 at w ⊢
  refine r_dup C dX10_storeTurned_3 rfl ?_
  refine r_ciV (rm' := rmX6_init) C mX6_init vX6_init (host := "NestingPlanner") (Or.inr nk24) [] [aP (some h.length)] rfl rfl (Nat.le_of_ble_eq_true rfl) (by decide) w.1 ((k + 1) + 3) ((n + 9) + 40) rfl rfl dX10_storeTurned_4 rfl w.2 (fun h3 w => ?_)
  refine r_astore C dX10_storeTurned_7 (by decide) rfl ?_
  refine r_aload C dX10_storeTurned_9 0 rfl ?_
  refine r_aload_n C dX10_storeTurned_11 rfl 2 rfl ?_
  refine r_iload_n C dX10_storeTurned_12 rfl 4 rfl ?_
  refine r_cvV (rm' := rmX6_setTurned) C mX6_setTurned vX6_setTurned k466 [aP l1, aI l3] [] rfl rfl (Nat.le_of_ble_eq_true rfl) (by decide) w.1 ((k + 1) + 3) ((n + 9) + 40) rfl rfl dX10_storeTurned_13 w.2 (fun h6 w => ?_)
  refine r_aload_n C dX10_storeTurned_16 rfl 1 rfl ?_
  refine r_getP C fcX10 (f := 7) (by decide) rfl k318 dX10_storeTurned_17 (w.mono fun x7 w => ?_)
  refine r_aload_n C dX10_storeTurned_20 rfl 1 rfl ?_
  refine r_getP C fcX10 (f := 5) (by decide) rfl k316 dX10_storeTurned_21 (w.mono fun x8 w => ?_)
  refine r_cvV (rm' := rmX1_save) C mX1_save vX1_save k489 [aP x8] [] rfl rfl (Nat.le_of_ble_eq_true rfl) (by decide) w.1 ((k + 1) + 3) ((n + 9) + 40) rfl rfl dX10_storeTurned_24 w.2 (fun h10 w => ?_)
  refine r_aload_n C dX10_storeTurned_27 rfl 1 rfl ?_
  refine r_getP C fcX10 (f := 5) (by decide) rfl k316 dX10_storeTurned_28 (w.mono fun x11 w => ?_)
  refine r_iload_n C dX10_storeTurned_31 rfl 3 rfl ?_
  refine r_aload C dX10_storeTurned_32 0 rfl ?_
  refine r_cvV (rm' := rmX8_setSlot) C mX8_setSlot vX8_setSlot k529 [aI l2, aP (some h.length)] [] rfl rfl (Nat.le_of_ble_eq_true rfl) (by decide) w.1 ((k + 1) + 3) ((n + 9) + 40) rfl rfl dX10_storeTurned_34 w.2 (fun h13 w => ?_)
  refine r_aload C dX10_storeTurned_37 0 rfl ?_
  refine r_getI C fcX6 (f := 3) (by decide) rfl k34 dX10_storeTurned_39 (w.mono fun x14 w => ?_)
  exact r_iret C D rfl w.1.1 w.1.2 dX10_storeTurned_42 w.2
theorem eX10_storeTurned {E : EV} {post : Option AV → AH → Prop} {h : AH} {l0 : Option Nat} {l1 : Option Nat} {l2 : Int32} {l3 : Int32} (w : PX10_storeTurned_0 E post 0 0 h l0 l1 l2 l3) : sX10_storeTurned E [aP l0, aP l1, aI l2, aI l3] h post := Spec.of RX10 rfl rfl (Nat.le_of_ble_eq_true rfl) fun X C D => bX10_storeTurned_0 C D w
theorem dX10_copyShape_0 : decode cX10_copyShape 0 = .ok (.iload_n 1, 1) := by decide +kernel
theorem dX10_copyShape_1 : decode cX10_copyShape 1 = .ok (.invokestatic 98, 3) := by decide +kernel
theorem dX10_copyShape_4 : decode cX10_copyShape 4 = .ok (.ifCond .eq 19, 3) := by decide +kernel
theorem dX10_copyShape_7 : decode cX10_copyShape 7 = .ok (.iload_n 2, 1) := by decide +kernel
theorem dX10_copyShape_8 : decode cX10_copyShape 8 = .ok (.invokestatic 98, 3) := by decide +kernel
theorem dX10_copyShape_11 : decode cX10_copyShape 11 = .ok (.ifCond .eq 12, 3) := by decide +kernel
theorem dX10_copyShape_14 : decode cX10_copyShape 14 = .ok (.iload_n 3, 1) := by decide +kernel
theorem dX10_copyShape_15 : decode cX10_copyShape 15 = .ok (.ifCond .lt 8, 3) := by decide +kernel
theorem dX10_copyShape_18 : decode cX10_copyShape 18 = .ok (.iload_n 3, 1) := by decide +kernel
theorem dX10_copyShape_19 : decode cX10_copyShape 19 = .ok (.iconst 4, 1) := by decide +kernel
theorem dX10_copyShape_20 : decode cX10_copyShape 20 = .ok (.if_icmp .lt 6, 3) := by decide +kernel
theorem dX10_copyShape_23 : decode cX10_copyShape 23 = .ok (.ldc 88, 2) := by decide +kernel
theorem dX10_copyShape_25 : decode cX10_copyShape 25 = .ok (.ireturn, 1) := by decide +kernel
theorem dX10_copyShape_26 : decode cX10_copyShape 26 = .ok (.aload_n 0, 1) := by decide +kernel
theorem dX10_copyShape_27 : decode cX10_copyShape 27 = .ok (.getfield 52, 3) := by decide +kernel
theorem dX10_copyShape_30 : decode cX10_copyShape 30 = .ok (.iload_n 1, 1) := by decide +kernel
theorem dX10_copyShape_31 : decode cX10_copyShape 31 = .ok (.invokevirtual 116, 3) := by decide +kernel
theorem dX10_copyShape_34 : decode cX10_copyShape 34 = .ok (.invokevirtual 120, 3) := by decide +kernel
theorem dX10_copyShape_37 : decode cX10_copyShape 37 = .ok (.ifCond .eq 6, 3) := by decide +kernel
theorem dX10_copyShape_40 : decode cX10_copyShape 40 = .ok (.ldc 124, 2) := by decide +kernel
theorem dX10_copyShape_42 : decode cX10_copyShape 42 = .ok (.ireturn, 1) := by decide +kernel
theorem dX10_copyShape_43 : decode cX10_copyShape 43 = .ok (.aload_n 0, 1) := by decide +kernel
theorem dX10_copyShape_44 : decode cX10_copyShape 44 = .ok (.aload_n 0, 1) := by decide +kernel
theorem dX10_copyShape_45 : decode cX10_copyShape 45 = .ok (.getfield 52, 3) := by decide +kernel
theorem dX10_copyShape_48 : decode cX10_copyShape 48 = .ok (.iload_n 1, 1) := by decide +kernel
theorem dX10_copyShape_49 : decode cX10_copyShape 49 = .ok (.invokevirtual 116, 3) := by decide +kernel
theorem dX10_copyShape_52 : decode cX10_copyShape 52 = .ok (.iload_n 2, 1) := by decide +kernel
theorem dX10_copyShape_53 : decode cX10_copyShape 53 = .ok (.iload_n 3, 1) := by decide +kernel
theorem dX10_copyShape_54 : decode cX10_copyShape 54 = .ok (.invokevirtual 112, 3) := by decide +kernel
theorem dX10_copyShape_57 : decode cX10_copyShape 57 = .ok (.ireturn, 1) := by decide +kernel
abbrev rmX10_copyShape : Room := { frames := 5, cells := 4, slots := 50, locals := 200 }
abbrev sX10_copyShape (E : EV) : List AV → AH → (Option AV → AH → Prop) → Prop := Spec E yX10_copyShape cX10_copyShape 4 (some .int) rmX10_copyShape
theorem mX10_copyShape : Mt yX10_copyShape cX10_copyShape 4 (some .int) 3 := ⟨k543, k1, by decide +kernel⟩
theorem vX10_copyShape : MtV yX10_copyShape 10 := ⟨k541, k542, by decide, (RX10, TX10, 12), rfl, rfl⟩
def PX10_copyShape_0 (E : EV) (post : Option AV → AH → Prop) (k n : Nat) (h : AH) (l0 : Option Nat) (l1 : Int32) (l2 : Int32) (l3 : Int32) : Prop :=
  (k ≤ 4 ∧ n ≤ 50) ∧ CS (sX10_isSlot E) [aI l1] h (kI fun x1 h2 => (x1 = 0 → (k ≤ 4 ∧ n ≤ 50) ∧ post (some (aI (-1000001 : Int32))) h2) ∧ (¬ x1 = 0 → (k ≤ 4 ∧ n ≤ 50) ∧ CS (sX10_isSlot E) [aI l2] h2 (kI fun x3 h4 => (x3 = 0 → (k ≤ 4 ∧ n ≤ 50) ∧ post (some (aI (-1000001 : Int32))) h4) ∧ (¬ x3 = 0 → (l3 < 0 → (k ≤ 4 ∧ n ≤ 50) ∧ post (some (aI (-1000001 : Int32))) h4) ∧ (¬ l3 < 0 → (l3 < (4 : Int32) → rdP h4 l0 10 5 fun x5 => (k ≤ 4 ∧ n ≤ 50) ∧ CV (sX8_slot E) x5 8 [aI l1] h4 (kP fun x6 h7 => (k ≤ 4 ∧ n ≤ 50) ∧ CV (sX6_isEmpty E) x6 6 [] h7 (kI fun x8 h9 => (x8 = 0 → rdP h9 l0 10 5 fun x10 => (k ≤ 4 ∧ n ≤ 50) ∧ CV (sX8_slot E) x10 8 [aI l1] h9 (kP fun x11 h12 => (k + 4 ≤ 4 ∧ n + 50 ≤ 50) ∧ CV (sX10_storeTurned E) l0 10 [aP x11, aI l2, aI l3] h12 (kI fun x13 h14 => ((k + 4) ≤ 4 ∧ (n + 50) ≤ 50) ∧ post (some (aI x13)) h14))) ∧ (¬ x8 = 0 → (k ≤ 4 ∧ n ≤ 50) ∧ post (some (aI (-1000002 : Int32))) h9)))) ∧ (¬ l3 < (4 : Int32) → (k ≤ 4 ∧ n ≤ 50) ∧ post (some (aI (-1000001 : Int32))) h4))))))
theorem bX10_copyShape_0 {E : EV} {X : AX} {post : Option AV → AH → Prop} (C : Cb E X cX10_copyShape RX10 4 rmX10_copyShape) (D : Cr E X (some .int) rmX10_copyShape "copyShape" post) {k n : Nat} {h : AH} {l0 : Option Nat} {l1 : Int32} {l2 : Int32} {l3 : Int32} (w : PX10_copyShape_0 E post k n h l0 l1 l2 l3) : Go E X 4 k n 0 [(0, aP l0), (1, aI l1), (2, aI l2), (3, aI l3)] [] h := by
  unfold PX10_copyShape_0 at w
  refine r_iload_n C dX10_copyShape_0 rfl 1 rfl ?_
  refine r_csI (rm' := rmX10_isSlot) C mX10_isSlot vX10_isSlot k366 [aI l1] [] rfl rfl (Nat.le_of_ble_eq_true rfl) (by decide) w.1 k n rfl rfl dX10_copyShape_1 w.2 (fun x1 h2 w => ?_)
  refine r_if_eq C dX10_copyShape_4 (tgt := 23) rfl (fun hc => ?_) (fun hc => ?_)
  · have w := w.1 hc
    refine r_ldc (v := -1000001) C dX10_copyShape_23 k352 ?_
    exact r_iret C D rfl w.1.1 w.1.2 dX10_copyShape_25 w.2
  · have w := w.2 hc
    refine r_iload_n C dX10_copyShape_7 rfl 2 rfl ?_
    refine r_csI (rm' := rmX10_isSlot) C mX10_isSlot vX10_isSlot k366 [aI l2] [] rfl rfl (Nat.le_of_ble_eq_true rfl) (by decide) w.1 k n rfl rfl dX10_copyShape_8 w.2 (fun x3 h4 w => ?_)
    refine r_if_eq C dX10_copyShape_11 (tgt := 23) rfl (fun hc => ?_) (fun hc => ?_)
    · have w := w.1 hc
      refine r_ldc (v := -1000001) C dX10_copyShape_23 k352 ?_
      exact r_iret C D rfl w.1.1 w.1.2 dX10_copyShape_25 w.2
    · have w := w.2 hc
      refine r_iload_n C dX10_copyShape_14 rfl 3 rfl ?_
      refine r_if_lt C dX10_copyShape_15 (tgt := 23) rfl (fun hc => ?_) (fun hc => ?_)
      · have w := w.1 hc
        refine r_ldc (v := -1000001) C dX10_copyShape_23 k352 ?_
        exact r_iret C D rfl w.1.1 w.1.2 dX10_copyShape_25 w.2
      · have w := w.2 hc
        refine r_iload_n C dX10_copyShape_18 rfl 3 rfl ?_
        refine r_iconst (v := 4) C dX10_copyShape_19 rfl ?_
        refine r_icmp_lt C dX10_copyShape_20 (tgt := 26) rfl (fun hc => ?_) (fun hc => ?_)
        · have w := w.1 hc
          refine r_aload_n C dX10_copyShape_26 rfl 0 rfl ?_
          refine r_getP C fcX10 (f := 5) (by decide) rfl k316 dX10_copyShape_27 (w.mono fun x5 w => ?_)
          refine r_iload_n C dX10_copyShape_30 rfl 1 rfl ?_
          refine r_cvP (rm' := rmX8_slot) C mX8_slot vX8_slot k537 [aI l1] [] rfl rfl (Nat.le_of_ble_eq_true rfl) (by decide) w.1 k n rfl rfl dX10_copyShape_31 w.2 (fun x6 h7 w => ?_)
          refine r_cvI (rm' := rmX6_isEmpty) C mX6_isEmpty vX6_isEmpty k538 [] [] rfl rfl (Nat.le_of_ble_eq_true rfl) (by decide) w.1 k n rfl rfl dX10_copyShape_34 w.2 (fun x8 h9 w => ?_)
          refine r_if_eq C dX10_copyShape_37 (tgt := 43) rfl (fun hc => ?_) (fun hc => ?_)
          · have w := w.1 hc
            refine r_aload_n C dX10_copyShape_43 rfl 0 rfl ?_
            refine r_aload_n C dX10_copyShape_44 rfl 0 rfl ?_
            refine r_getP C fcX10 (f := 5) (by decide) rfl k316 dX10_copyShape_45 (w.mono fun x10 w => ?_)
            refine r_iload_n C dX10_copyShape_48 rfl 1 rfl ?_
            refine r_cvP (rm' := rmX8_slot) C mX8_slot vX8_slot k537 [aI l1] [aP l0] rfl rfl (Nat.le_of_ble_eq_true rfl) (by decide) w.1 k n rfl rfl dX10_copyShape_49 w.2 (fun x11 h12 w => ?_)
            refine r_iload_n C dX10_copyShape_52 rfl 2 rfl ?_
            refine r_iload_n C dX10_copyShape_53 rfl 3 rfl ?_
            refine r_cvI (rm' := rmX10_storeTurned) C mX10_storeTurned vX10_storeTurned k462 [aP x11, aI l2, aI l3] [] rfl rfl (Nat.le_of_ble_eq_true rfl) (by decide) w.1 (k + 4) (n + 50) rfl rfl dX10_copyShape_54 w.2 (fun x13 h14 w => ?_)
            exact r_iret C D rfl w.1.1 w.1.2 dX10_copyShape_57 w.2
          · have w := w.2 hc
            refine r_ldc (v := -1000002) C dX10_copyShape_40 k539 ?_
            exact r_iret C D rfl w.1.1 w.1.2 dX10_copyShape_42 w.2
        · have w := w.2 hc
          refine r_ldc (v := -1000001) C dX10_copyShape_23 k352 ?_
          exact r_iret C D rfl w.1.1 w.1.2 dX10_copyShape_25 w.2
theorem eX10_copyShape {E : EV} {post : Option AV → AH → Prop} {h : AH} {l0 : Option Nat} {l1 : Int32} {l2 : Int32} {l3 : Int32} (w : PX10_copyShape_0 E post 0 0 h l0 l1 l2 l3) : sX10_copyShape E [aP l0, aI l1, aI l2, aI l3] h post := Spec.of RX10 rfl rfl (Nat.le_of_ble_eq_true rfl) fun X C D => bX10_copyShape_0 C D w
theorem dX10_hasPiece_0 : decode cX10_hasPiece 0 = .ok (.iload_n 1, 1) := by decide +kernel
theorem dX10_hasPiece_1 : decode cX10_hasPiece 1 = .ok (.invokestatic 98, 3) := by decide +kernel
theorem dX10_hasPiece_4 : decode cX10_hasPiece 4 = .ok (.ifCond .eq 26, 3) := by decide +kernel
theorem dX10_hasPiece_7 : decode cX10_hasPiece 7 = .ok (.iload_n 2, 1) := by decide +kernel
theorem dX10_hasPiece_8 : decode cX10_hasPiece 8 = .ok (.ifCond .lt 22, 3) := by decide +kernel
theorem dX10_hasPiece_11 : decode cX10_hasPiece 11 = .ok (.iload_n 2, 1) := by decide +kernel
theorem dX10_hasPiece_12 : decode cX10_hasPiece 12 = .ok (.aload_n 0, 1) := by decide +kernel
theorem dX10_hasPiece_13 : decode cX10_hasPiece 13 = .ok (.getfield 52, 3) := by decide +kernel
theorem dX10_hasPiece_16 : decode cX10_hasPiece 16 = .ok (.iload_n 1, 1) := by decide +kernel
theorem dX10_hasPiece_17 : decode cX10_hasPiece 17 = .ok (.invokevirtual 116, 3) := by decide +kernel
theorem dX10_hasPiece_20 : decode cX10_hasPiece 20 = .ok (.getfield 136, 3) := by decide +kernel
theorem dX10_hasPiece_23 : decode cX10_hasPiece 23 = .ok (.if_icmp .ge 7, 3) := by decide +kernel
theorem dX10_hasPiece_26 : decode cX10_hasPiece 26 = .ok (.iconst 1, 1) := by decide +kernel
theorem dX10_hasPiece_27 : decode cX10_hasPiece 27 = .ok (.goto 4, 3) := by decide +kernel
theorem dX10_hasPiece_30 : decode cX10_hasPiece 30 = .ok (.iconst 0, 1) := by decide +kernel
theorem dX10_hasPiece_31 : decode cX10_hasPiece 31 = .ok (.ireturn, 1) := by decide +kernel
abbrev rmX10_hasPiece : Room := { frames := 1, cells := 0, slots := 0, locals := 40 }
abbrev sX10_hasPiece (E : EV) : List AV → AH → (Option AV → AH → Prop) → Prop := Spec E yX10_hasPiece cX10_hasPiece 3 (some .boolean) rmX10_hasPiece
theorem mX10_hasPiece : Mt yX10_hasPiece cX10_hasPiece 3 (some .boolean) 2 := ⟨k555, k1, by decide +kernel⟩
theorem vX10_hasPiece : MtV yX10_hasPiece 10 := ⟨k554, kp8, by decide, (RX10, TX10, 12), rfl, rfl⟩
def PX10_hasPiece_0 (E : EV) (post : Option AV → AH → Prop) (h : AH) (l0 : Option Nat) (l1 : Int32) (l2 : Int32) : Prop :=
  CS (sX10_isSlot E) [aI l1] h (kI fun x1 h2 => (x1 = 0 → post (some (aI (0 : Int32))) h2) ∧ (¬ x1 = 0 → (l2 < 0 → post (some (aI (0 : Int32))) h2) ∧ (¬ l2 < 0 → rdP h2 l0 10 5 fun x3 => CV (sX8_slot E) x3 8 [aI l1] h2 (kP fun x4 h5 => rdI h5 x4 6 3 fun x6 => (x6 ≤ l2 → post (some (aI (0 : Int32))) h5) ∧ (¬ x6 ≤ l2 → post (some (aI (1 : Int32))) h5)))))
theorem bX10_hasPiece_0 {E : EV} {X : AX} {post : Option AV → AH → Prop} (C : Cb E X cX10_hasPiece RX10 3 rmX10_hasPiece) (D : Cr E X (some .boolean) rmX10_hasPiece "hasPiece" post) {h : AH} {l0 : Option Nat} {l1 : Int32} {l2 : Int32} (w : PX10_hasPiece_0 E post h l0 l1 l2) : Go E X 3 0 0 0 [(0, aP l0), (1, aI l1), (2, aI l2)] [] h := by
  unfold PX10_hasPiece_0 at w
  refine r_iload_n C dX10_hasPiece_0 rfl 1 rfl ?_
  refine r_csI (rm' := rmX10_isSlot) C mX10_isSlot vX10_isSlot k366 [aI l1] [] rfl rfl (Nat.le_of_ble_eq_true rfl) (by decide) ⟨Nat.zero_le _, Nat.zero_le _⟩ 0 0 rfl rfl dX10_hasPiece_1 w (fun x1 h2 w => ?_)
  refine r_if_eq C dX10_hasPiece_4 (tgt := 30) rfl (fun hc => ?_) (fun hc => ?_)
  · have w := w.1 hc
    refine r_iconst (v := 0) C dX10_hasPiece_30 rfl ?_
    exact r_zret C D rfl (Or.inl rfl) (Nat.zero_le _) (Nat.zero_le _) dX10_hasPiece_31 w
  · have w := w.2 hc
    refine r_iload_n C dX10_hasPiece_7 rfl 2 rfl ?_
    refine r_if_lt C dX10_hasPiece_8 (tgt := 30) rfl (fun hc => ?_) (fun hc => ?_)
    · have w := w.1 hc
      refine r_iconst (v := 0) C dX10_hasPiece_30 rfl ?_
      exact r_zret C D rfl (Or.inl rfl) (Nat.zero_le _) (Nat.zero_le _) dX10_hasPiece_31 w
    · have w := w.2 hc
      refine r_iload_n C dX10_hasPiece_11 rfl 2 rfl ?_
      refine r_aload_n C dX10_hasPiece_12 rfl 0 rfl ?_
      refine r_getP C fcX10 (f := 5) (by decide) rfl k316 dX10_hasPiece_13 (w.mono fun x3 w => ?_)
      refine r_iload_n C dX10_hasPiece_16 rfl 1 rfl ?_
      refine r_cvP (rm' := rmX8_slot) C mX8_slot vX8_slot k537 [aI l1] [aI l2] rfl rfl (Nat.le_of_ble_eq_true rfl) (by decide) ⟨Nat.zero_le _, Nat.zero_le _⟩ 0 0 rfl rfl dX10_hasPiece_17 w (fun x4 h5 w => ?_)
      refine r_getI C fcX6 (f := 3) (by decide) rfl k34 dX10_hasPiece_20 (w.mono fun x6 w => ?_)
      refine r_icmp_ge C dX10_hasPiece_23 (tgt := 30) rfl (fun hc => ?_) (fun hc => ?_)
      · have w := w.1 hc
        refine r_iconst (v := 0) C dX10_hasPiece_30 rfl ?_
        exact r_zret C D rfl (Or.inl rfl) (Nat.zero_le _) (Nat.zero_le _) dX10_hasPiece_31 w
      · have w := w.2 hc
        refine r_iconst (v := 1) C dX10_hasPiece_26 rfl ?_
        refine r_goto C dX10_hasPiece_27 (tgt := 31) rfl ?_
        exact r_zret C D rfl (Or.inr rfl) (Nat.zero_le _) (Nat.zero_le _) dX10_hasPiece_31 w
theorem eX10_hasPiece {E : EV} {post : Option AV → AH → Prop} {h : AH} {l0 : Option Nat} {l1 : Int32} {l2 : Int32} (w : PX10_hasPiece_0 E post h l0 l1 l2) : sX10_hasPiece E [aP l0, aI l1, aI l2] h post := Spec.of RX10 rfl rfl (Nat.le_of_ble_eq_true rfl) fun X C D => bX10_hasPiece_0 C D w
theorem dX10_doubleArea_0 : decode cX10_doubleArea 0 = .ok (.aload_n 0, 1) := by decide +kernel
theorem dX10_doubleArea_1 : decode cX10_doubleArea 1 = .ok (.iload_n 1, 1) := by decide +kernel
theorem dX10_doubleArea_2 : decode cX10_doubleArea 2 = .ok (.iload_n 2, 1) := by decide +kernel
theorem dX10_doubleArea_3 : decode cX10_doubleArea 3 = .ok (.invokevirtual 139, 3) := by decide +kernel
theorem dX10_doubleArea_6 : decode cX10_doubleArea 6 = .ok (.ifCond .ne 6, 3) := by decide +kernel
theorem dX10_doubleArea_9 : decode cX10_doubleArea 9 = .ok (.ldc 88, 2) := by decide +kernel
theorem dX10_doubleArea_11 : decode cX10_doubleArea 11 = .ok (.ireturn, 1) := by decide +kernel
theorem dX10_doubleArea_12 : decode cX10_doubleArea 12 = .ok (.aload_n 0, 1) := by decide +kernel
theorem dX10_doubleArea_13 : decode cX10_doubleArea 13 = .ok (.getfield 52, 3) := by decide +kernel
theorem dX10_doubleArea_16 : decode cX10_doubleArea 16 = .ok (.iload_n 1, 1) := by decide +kernel
theorem dX10_doubleArea_17 : decode cX10_doubleArea 17 = .ok (.invokevirtual 116, 3) := by decide +kernel
theorem dX10_doubleArea_20 : decode cX10_doubleArea 20 = .ok (.iload_n 2, 1) := by decide +kernel
theorem dX10_doubleArea_21 : decode cX10_doubleArea 21 = .ok (.iconst 0, 1) := by decide +kernel
theorem dX10_doubleArea_22 : decode cX10_doubleArea 22 = .ok (.aload_n 0, 1) := by decide +kernel
theorem dX10_doubleArea_23 : decode cX10_doubleArea 23 = .ok (.getfield 69, 3) := by decide +kernel
theorem dX10_doubleArea_26 : decode cX10_doubleArea 26 = .ok (.invokevirtual 143, 3) := by decide +kernel
theorem dX10_doubleArea_29 : decode cX10_doubleArea 29 = .ok (.aload_n 0, 1) := by decide +kernel
theorem dX10_doubleArea_30 : decode cX10_doubleArea 30 = .ok (.getfield 69, 3) := by decide +kernel
theorem dX10_doubleArea_33 : decode cX10_doubleArea 33 = .ok (.invokevirtual 147, 3) := by decide +kernel
theorem dX10_doubleArea_36 : decode cX10_doubleArea 36 = .ok (.ireturn, 1) := by decide +kernel
abbrev rmX10_doubleArea : Room := { frames := 3, cells := 0, slots := 0, locals := 120 }
abbrev sX10_doubleArea (E : EV) : List AV → AH → (Option AV → AH → Prop) → Prop := Spec E yX10_doubleArea cX10_doubleArea 3 (some .int) rmX10_doubleArea
theorem mX10_doubleArea : Mt yX10_doubleArea cX10_doubleArea 3 (some .int) 2 := ⟨k551, k1, by decide +kernel⟩
theorem vX10_doubleArea : MtV yX10_doubleArea 10 := ⟨k549, k550, by decide, (RX10, TX10, 12), rfl, rfl⟩
def PX10_doubleArea_0 (E : EV) (post : Option AV → AH → Prop) (h : AH) (l0 : Option Nat) (l1 : Int32) (l2 : Int32) : Prop :=
  CV (sX10_hasPiece E) l0 10 [aI l1, aI l2] h (kI fun x1 h2 => (¬ x1 = 0 → rdP h2 l0 10 5 fun x3 => CV (sX8_slot E) x3 8 [aI l1] h2 (kP fun x4 h5 => rdP h5 l0 10 8 fun x6 => CV (sX6_copyPiece E) x4 6 [aI l2, aI (0 : Int32), aP x6] h5 (kV fun h8 => rdP h8 l0 10 8 fun x9 => CV (sX5_areaTwice E) x9 5 [] h8 (kI fun x10 h11 => post (some (aI x10)) h11)))) ∧ (x1 = 0 → post (some (aI (-1000001 : Int32))) h2))
theorem bX10_doubleArea_0 {E : EV} {X : AX} {post : Option AV → AH → Prop} (C : Cb E X cX10_doubleArea RX10 3 rmX10_doubleArea) (D : Cr E X (some .int) rmX10_doubleArea "doubleArea" post) {h : AH} {l0 : Option Nat} {l1 : Int32} {l2 : Int32} (w : PX10_doubleArea_0 E post h l0 l1 l2) : Go E X 3 0 0 0 [(0, aP l0), (1, aI l1), (2, aI l2)] [] h := by
  unfold PX10_doubleArea_0 at w
  refine r_aload_n C dX10_doubleArea_0 rfl 0 rfl ?_
  refine r_iload_n C dX10_doubleArea_1 rfl 1 rfl ?_
  refine r_iload_n C dX10_doubleArea_2 rfl 2 rfl ?_
  refine r_cvI (rm' := rmX10_hasPiece) C mX10_hasPiece vX10_hasPiece k552 [aI l1, aI l2] [] rfl rfl (Nat.le_of_ble_eq_true rfl) (by decide) ⟨Nat.zero_le _, Nat.zero_le _⟩ 0 0 rfl rfl dX10_doubleArea_3 w (fun x1 h2 w => ?_)
  refine r_if_ne C dX10_doubleArea_6 (tgt := 12) rfl (fun hc => ?_) (fun hc => ?_)
  · have w := w.1 hc
    refine r_aload_n C dX10_doubleArea_12 rfl 0 rfl ?_
    refine r_getP C fcX10 (f := 5) (by decide) rfl k316 dX10_doubleArea_13 (w.mono fun x3 w => ?_)
    refine r_iload_n C dX10_doubleArea_16 rfl 1 rfl ?_
    refine r_cvP (rm' := rmX8_slot) C mX8_slot vX8_slot k537 [aI l1] [] rfl rfl (Nat.le_of_ble_eq_true rfl) (by decide) ⟨Nat.zero_le _, Nat.zero_le _⟩ 0 0 rfl rfl dX10_doubleArea_17 w (fun x4 h5 w => ?_)
    refine r_iload_n C dX10_doubleArea_20 rfl 2 rfl ?_
    refine r_iconst (v := 0) C dX10_doubleArea_21 rfl ?_
    refine r_aload_n C dX10_doubleArea_22 rfl 0 rfl ?_
    refine r_getP C fcX10 (f := 8) (by decide) rfl k319 dX10_doubleArea_23 (w.mono fun x6 w => ?_)
    refine r_cvV (rm' := rmX6_copyPiece) C mX6_copyPiece vX6_copyPiece k556 [aI l2, aI (0 : Int32), aP x6] [] rfl rfl (Nat.le_of_ble_eq_true rfl) (by decide) ⟨Nat.zero_le _, Nat.zero_le _⟩ 0 0 rfl rfl dX10_doubleArea_26 w (fun h8 w => ?_)
    refine r_aload_n C dX10_doubleArea_29 rfl 0 rfl ?_
    refine r_getP C fcX10 (f := 8) (by decide) rfl k319 dX10_doubleArea_30 (w.mono fun x9 w => ?_)
    refine r_cvI (rm' := rmX5_areaTwice) C mX5_areaTwice vX5_areaTwice k562 [] [] rfl rfl (Nat.le_of_ble_eq_true rfl) (by decide) ⟨Nat.zero_le _, Nat.zero_le _⟩ 0 0 rfl rfl dX10_doubleArea_33 w (fun x10 h11 w => ?_)
    exact r_iret C D rfl (Nat.zero_le _) (Nat.zero_le _) dX10_doubleArea_36 w
  · have w := w.2 hc
    refine r_ldc (v := -1000001) C dX10_doubleArea_9 k352 ?_
    exact r_iret C D rfl (Nat.zero_le _) (Nat.zero_le _) dX10_doubleArea_11 w
theorem eX10_doubleArea {E : EV} {post : Option AV → AH → Prop} {h : AH} {l0 : Option Nat} {l1 : Int32} {l2 : Int32} (w : PX10_doubleArea_0 E post h l0 l1 l2) : sX10_doubleArea E [aP l0, aI l1, aI l2] h post := Spec.of RX10 rfl rfl (Nat.le_of_ble_eq_true rfl) fun X C D => bX10_doubleArea_0 C D w
theorem dX10_isItem_0 : decode cX10_isItem 0 = .ok (.iload_n 1, 1) := by decide +kernel
theorem dX10_isItem_1 : decode cX10_isItem 1 = .ok (.ifCond .lt 18, 3) := by decide +kernel
theorem dX10_isItem_4 : decode cX10_isItem 4 = .ok (.iload_n 1, 1) := by decide +kernel
theorem dX10_isItem_5 : decode cX10_isItem 5 = .ok (.aload_n 0, 1) := by decide +kernel
theorem dX10_isItem_6 : decode cX10_isItem 6 = .ok (.getfield 52, 3) := by decide +kernel
theorem dX10_isItem_9 : decode cX10_isItem 9 = .ok (.getfield 218, 3) := by decide +kernel
theorem dX10_isItem_12 : decode cX10_isItem 12 = .ok (.if_icmp .ge 7, 3) := by decide +kernel
theorem dX10_isItem_15 : decode cX10_isItem 15 = .ok (.iconst 1, 1) := by decide +kernel
theorem dX10_isItem_16 : decode cX10_isItem 16 = .ok (.goto 4, 3) := by decide +kernel
theorem dX10_isItem_19 : decode cX10_isItem 19 = .ok (.iconst 0, 1) := by decide +kernel
theorem dX10_isItem_20 : decode cX10_isItem 20 = .ok (.ireturn, 1) := by decide +kernel
abbrev rmX10_isItem : Room := { frames := 0, cells := 0, slots := 0, locals := 0 }
abbrev sX10_isItem (E : EV) : List AV → AH → (Option AV → AH → Prop) → Prop := Spec E yX10_isItem cX10_isItem 2 (some .boolean) rmX10_isItem
theorem mX10_isItem : Mt yX10_isItem cX10_isItem 2 (some .boolean) 1 := ⟨k837, k1, by decide +kernel⟩
theorem vX10_isItem : MtV yX10_isItem 10 := ⟨k836, kp21, by decide, (RX10, TX10, 12), rfl, rfl⟩
def PX10_isItem_0 (E : EV) (post : Option AV → AH → Prop) (h : AH) (l0 : Option Nat) (l1 : Int32) : Prop :=
  (l1 < 0 → post (some (aI (0 : Int32))) h) ∧ (¬ l1 < 0 → rdP h l0 10 5 fun x1 => rdI h x1 8 5 fun x2 => (x2 ≤ l1 → post (some (aI (0 : Int32))) h) ∧ (¬ x2 ≤ l1 → post (some (aI (1 : Int32))) h))
theorem bX10_isItem_0 {E : EV} {X : AX} {post : Option AV → AH → Prop} (C : Cb E X cX10_isItem RX10 2 rmX10_isItem) (D : Cr E X (some .boolean) rmX10_isItem "isItem" post) {h : AH} {l0 : Option Nat} {l1 : Int32} (w : PX10_isItem_0 E post h l0 l1) : Go E X 2 0 0 0 [(0, aP l0), (1, aI l1)] [] h := by
  unfold PX10_isItem_0 at w
  refine r_iload_n C dX10_isItem_0 rfl 1 rfl ?_
  refine r_if_lt C dX10_isItem_1 (tgt := 19) rfl (fun hc => ?_) (fun hc => ?_)
  · have w := w.1 hc
    refine r_iconst (v := 0) C dX10_isItem_19 rfl ?_
    exact r_zret C D rfl (Or.inl rfl) (Nat.zero_le _) (Nat.zero_le _) dX10_isItem_20 w
  · have w := w.2 hc
    refine r_iload_n C dX10_isItem_4 rfl 1 rfl ?_
    refine r_aload_n C dX10_isItem_5 rfl 0 rfl ?_
    refine r_getP C fcX10 (f := 5) (by decide) rfl k316 dX10_isItem_6 (w.mono fun x1 w => ?_)
    refine r_getI C fcX8 (f := 5) (by decide) rfl k261 dX10_isItem_9 (w.mono fun x2 w => ?_)
    refine r_icmp_ge C dX10_isItem_12 (tgt := 19) rfl (fun hc => ?_) (fun hc => ?_)
    · have w := w.1 hc
      refine r_iconst (v := 0) C dX10_isItem_19 rfl ?_
      exact r_zret C D rfl (Or.inl rfl) (Nat.zero_le _) (Nat.zero_le _) dX10_isItem_20 w
    · have w := w.2 hc
      refine r_iconst (v := 1) C dX10_isItem_15 rfl ?_
      refine r_goto C dX10_isItem_16 (tgt := 20) rfl ?_
      exact r_zret C D rfl (Or.inr rfl) (Nat.zero_le _) (Nat.zero_le _) dX10_isItem_20 w
theorem eX10_isItem {E : EV} {post : Option AV → AH → Prop} {h : AH} {l0 : Option Nat} {l1 : Int32} (w : PX10_isItem_0 E post h l0 l1) : sX10_isItem E [aP l0, aI l1] h post := Spec.of RX10 rfl rfl (Nat.le_of_ble_eq_true rfl) fun X C D => bX10_isItem_0 C D w
theorem dX10_isDirection_0 : decode cX10_isDirection 0 = .ok (.iload_n 0, 1) := by decide +kernel
theorem dX10_isDirection_1 : decode cX10_isDirection 1 = .ok (.ifCond .lt 13, 3) := by decide +kernel
theorem dX10_isDirection_4 : decode cX10_isDirection 4 = .ok (.iload_n 0, 1) := by decide +kernel
theorem dX10_isDirection_5 : decode cX10_isDirection 5 = .ok (.bipush 8, 2) := by decide +kernel
theorem dX10_isDirection_7 : decode cX10_isDirection 7 = .ok (.if_icmp .ge 7, 3) := by decide +kernel
theorem dX10_isDirection_10 : decode cX10_isDirection 10 = .ok (.iconst 1, 1) := by decide +kernel
theorem dX10_isDirection_11 : decode cX10_isDirection 11 = .ok (.goto 4, 3) := by decide +kernel
theorem dX10_isDirection_14 : decode cX10_isDirection 14 = .ok (.iconst 0, 1) := by decide +kernel
theorem dX10_isDirection_15 : decode cX10_isDirection 15 = .ok (.ireturn, 1) := by decide +kernel
abbrev rmX10_isDirection : Room := { frames := 0, cells := 0, slots := 0, locals := 0 }
abbrev sX10_isDirection (E : EV) : List AV → AH → (Option AV → AH → Prop) → Prop := Spec E yX10_isDirection cX10_isDirection 1 (some .boolean) rmX10_isDirection
theorem mX10_isDirection : Mt yX10_isDirection cX10_isDirection 1 (some .boolean) 1 := ⟨k602, k1, by decide +kernel⟩
theorem vX10_isDirection : MtS yX10_isDirection := k601
def PX10_isDirection_0 (E : EV) (post : Option AV → AH → Prop) (h : AH) (l0 : Int32) : Prop :=
  (l0 < 0 → post (some (aI (0 : Int32))) h) ∧ (¬ l0 < 0 → ((8 : Int32) ≤ l0 → post (some (aI (0 : Int32))) h) ∧ (¬ (8 : Int32) ≤ l0 → post (some (aI (1 : Int32))) h))
theorem bX10_isDirection_0 {E : EV} {X : AX} {post : Option AV → AH → Prop} (C : Cb E X cX10_isDirection RX10 1 rmX10_isDirection) (D : Cr E X (some .boolean) rmX10_isDirection "isDirection" post) {h : AH} {l0 : Int32} (w : PX10_isDirection_0 E post h l0) : Go E X 1 0 0 0 [(0, aI l0)] [] h := by
  unfold PX10_isDirection_0 at w
  refine r_iload_n C dX10_isDirection_0 rfl 0 rfl ?_
  refine r_if_lt C dX10_isDirection_1 (tgt := 14) rfl (fun hc => ?_) (fun hc => ?_)
  · have w := w.1 hc
    refine r_iconst (v := 0) C dX10_isDirection_14 rfl ?_
    exact r_zret C D rfl (Or.inl rfl) (Nat.zero_le _) (Nat.zero_le _) dX10_isDirection_15 w
  · have w := w.2 hc
    refine r_iload_n C dX10_isDirection_4 rfl 0 rfl ?_
    refine r_bipush (v := 8) C dX10_isDirection_5 rfl ?_
    refine r_icmp_ge C dX10_isDirection_7 (tgt := 14) rfl (fun hc => ?_) (fun hc => ?_)
    · have w := w.1 hc
      refine r_iconst (v := 0) C dX10_isDirection_14 rfl ?_
      exact r_zret C D rfl (Or.inl rfl) (Nat.zero_le _) (Nat.zero_le _) dX10_isDirection_15 w
    · have w := w.2 hc
      refine r_iconst (v := 1) C dX10_isDirection_10 rfl ?_
      refine r_goto C dX10_isDirection_11 (tgt := 15) rfl ?_
      exact r_zret C D rfl (Or.inr rfl) (Nat.zero_le _) (Nat.zero_le _) dX10_isDirection_15 w
theorem eX10_isDirection {E : EV} {post : Option AV → AH → Prop} {h : AH} {l0 : Int32} (w : PX10_isDirection_0 E post h l0) : sX10_isDirection E [aI l0] h post := Spec.of RX10 rfl rfl (Nat.le_of_ble_eq_true rfl) fun X C D => bX10_isDirection_0 C D w
theorem dX10_escapes_0 : decode cX10_escapes 0 = .ok (.aload_n 0, 1) := by decide +kernel
theorem dX10_escapes_1 : decode cX10_escapes 1 = .ok (.iload_n 1, 1) := by decide +kernel
theorem dX10_escapes_2 : decode cX10_escapes 2 = .ok (.invokevirtual 258, 3) := by decide +kernel
theorem dX10_escapes_5 : decode cX10_escapes 5 = .ok (.ifCond .eq 10, 3) := by decide +kernel
theorem dX10_escapes_8 : decode cX10_escapes 8 = .ok (.iload_n 2, 1) := by decide +kernel
theorem dX10_escapes_9 : decode cX10_escapes 9 = .ok (.invokestatic 168, 3) := by decide +kernel
theorem dX10_escapes_12 : decode cX10_escapes 12 = .ok (.ifCond .ne 6, 3) := by decide +kernel
theorem dX10_escapes_15 : decode cX10_escapes 15 = .ok (.ldc 88, 2) := by decide +kernel
theorem dX10_escapes_17 : decode cX10_escapes 17 = .ok (.ireturn, 1) := by decide +kernel
theorem dX10_escapes_18 : decode cX10_escapes 18 = .ok (.aload_n 0, 1) := by decide +kernel
theorem dX10_escapes_19 : decode cX10_escapes 19 = .ok (.iload_n 1, 1) := by decide +kernel
theorem dX10_escapes_20 : decode cX10_escapes 20 = .ok (.iload_n 2, 1) := by decide +kernel
theorem dX10_escapes_21 : decode cX10_escapes 21 = .ok (.invokevirtual 301, 3) := by decide +kernel
theorem dX10_escapes_24 : decode cX10_escapes 24 = .ok (.ifCond .ne 7, 3) := by decide +kernel
theorem dX10_escapes_27 : decode cX10_escapes 27 = .ok (.iconst 1, 1) := by decide +kernel
theorem dX10_escapes_28 : decode cX10_escapes 28 = .ok (.goto 4, 3) := by decide +kernel
theorem dX10_escapes_31 : decode cX10_escapes 31 = .ok (.iconst 0, 1) := by decide +kernel
theorem dX10_escapes_32 : decode cX10_escapes 32 = .ok (.ireturn, 1) := by decide +kernel
abbrev rmX10_escapes : Room := { frames := 6, cells := 0, slots := 0, locals := 240 }
abbrev sX10_escapes (E : EV) : List AV → AH → (Option AV → AH → Prop) → Prop := Spec E yX10_escapes cX10_escapes 3 (some .int) rmX10_escapes
theorem mX10_escapes : Mt yX10_escapes cX10_escapes 3 (some .int) 2 := ⟨k898, k1, by decide +kernel⟩
theorem vX10_escapes : MtV yX10_escapes 10 := ⟨k896, k897, by decide, (RX10, TX10, 12), rfl, rfl⟩
def PX10_escapes_0 (E : EV) (post : Option AV → AH → Prop) (h : AH) (l0 : Option Nat) (l1 : Int32) (l2 : Int32) : Prop :=
  CV (sX10_isItem E) l0 10 [aI l1] h (kI fun x1 h2 => (x1 = 0 → post (some (aI (-1000001 : Int32))) h2) ∧ (¬ x1 = 0 → CS (sX10_isDirection E) [aI l2] h2 (kI fun x3 h4 => (¬ x3 = 0 → CV (sX10_blockersOf E) l0 10 [aI l1, aI l2] h4 (kI fun x5 h6 => (¬ x5 = 0 → post (some (aI (0 : Int32))) h6) ∧ (x5 = 0 → post (some (aI (1 : Int32))) h6))) ∧ (x3 = 0 → post (some (aI (-1000001 : Int32))) h4))))
theorem bX10_escapes_0 {E : EV} {X : AX} {post : Option AV → AH → Prop} (C : Cb E X cX10_escapes RX10 3 rmX10_escapes) (D : Cr E X (some .int) rmX10_escapes "escapes" post) {h : AH} {l0 : Option Nat} {l1 : Int32} {l2 : Int32} (w : PX10_escapes_0 E post h l0 l1 l2) : Go E X 3 0 0 0 [(0, aP l0), (1, aI l1), (2, aI l2)] [] h := by
  unfold PX10_escapes_0 at w
  refine r_aload_n C dX10_escapes_0 rfl 0 rfl ?_
  refine r_iload_n C dX10_escapes_1 rfl 1 rfl ?_
  refine r_cvI (rm' := rmX10_isItem) C mX10_isItem vX10_isItem k834 [aI l1] [] rfl rfl (Nat.le_of_ble_eq_true rfl) (by decide) ⟨Nat.zero_le _, Nat.zero_le _⟩ 0 0 rfl rfl dX10_escapes_2 w (fun x1 h2 w => ?_)
  refine r_if_eq C dX10_escapes_5 (tgt := 15) rfl (fun hc => ?_) (fun hc => ?_)
  · have w := w.1 hc
    refine r_ldc (v := -1000001) C dX10_escapes_15 k352 ?_
    exact r_iret C D rfl (Nat.zero_le _) (Nat.zero_le _) dX10_escapes_17 w
  · have w := w.2 hc
    refine r_iload_n C dX10_escapes_8 rfl 2 rfl ?_
    refine r_csI (rm' := rmX10_isDirection) C mX10_isDirection vX10_isDirection k600 [aI l2] [] rfl rfl (Nat.le_of_ble_eq_true rfl) (by decide) ⟨Nat.zero_le _, Nat.zero_le _⟩ 0 0 rfl rfl dX10_escapes_9 w (fun x3 h4 w => ?_)
    refine r_if_ne C dX10_escapes_12 (tgt := 18) rfl (fun hc => ?_) (fun hc => ?_)
    · have w := w.1 hc
      refine r_aload_n C dX10_escapes_18 rfl 0 rfl ?_
      refine r_iload_n C dX10_escapes_19 rfl 1 rfl ?_
      refine r_iload_n C dX10_escapes_20 rfl 2 rfl ?_
      refine r_cvI (rm' := rmX10_blockersOf) C mX10_blockersOf vX10_blockersOf k899 [aI l1, aI l2] [] rfl rfl (Nat.le_of_ble_eq_true rfl) (by decide) ⟨Nat.zero_le _, Nat.zero_le _⟩ 0 0 rfl rfl dX10_escapes_21 w (fun x5 h6 w => ?_)
      refine r_if_ne C dX10_escapes_24 (tgt := 31) rfl (fun hc => ?_) (fun hc => ?_)
      · have w := w.1 hc
        refine r_iconst (v := 0) C dX10_escapes_31 rfl ?_
        exact r_iret C D rfl (Nat.zero_le _) (Nat.zero_le _) dX10_escapes_32 w
      · have w := w.2 hc
        refine r_iconst (v := 1) C dX10_escapes_27 rfl ?_
        refine r_goto C dX10_escapes_28 (tgt := 32) rfl ?_
        exact r_iret C D rfl (Nat.zero_le _) (Nat.zero_le _) dX10_escapes_32 w
    · have w := w.2 hc
      refine r_ldc (v := -1000001) C dX10_escapes_15 k352 ?_
      exact r_iret C D rfl (Nat.zero_le _) (Nat.zero_le _) dX10_escapes_17 w
theorem eX10_escapes {E : EV} {post : Option AV → AH → Prop} {h : AH} {l0 : Option Nat} {l1 : Int32} {l2 : Int32} (w : PX10_escapes_0 E post h l0 l1 l2) : sX10_escapes E [aP l0, aI l1, aI l2] h post := Spec.of RX10 rfl rfl (Nat.le_of_ble_eq_true rfl) fun X C D => bX10_escapes_0 C D w
theorem dX10_extent_0 : decode cX10_extent 0 = .ok (.iload_n 1, 1) := by decide +kernel
theorem dX10_extent_1 : decode cX10_extent 1 = .ok (.invokestatic 98, 3) := by decide +kernel
theorem dX10_extent_4 : decode cX10_extent 4 = .ok (.ifCond .eq 10, 3) := by decide +kernel
theorem dX10_extent_7 : decode cX10_extent 7 = .ok (.iload_n 2, 1) := by decide +kernel
theorem dX10_extent_8 : decode cX10_extent 8 = .ok (.invokestatic 168, 3) := by decide +kernel
theorem dX10_extent_11 : decode cX10_extent 11 = .ok (.ifCond .ne 6, 3) := by decide +kernel
theorem dX10_extent_14 : decode cX10_extent 14 = .ok (.ldc 88, 2) := by decide +kernel
theorem dX10_extent_16 : decode cX10_extent 16 = .ok (.ireturn, 1) := by decide +kernel
theorem dX10_extent_17 : decode cX10_extent 17 = .ok (.aload_n 0, 1) := by decide +kernel
theorem dX10_extent_18 : decode cX10_extent 18 = .ok (.getfield 52, 3) := by decide +kernel
theorem dX10_extent_21 : decode cX10_extent 21 = .ok (.iload_n 1, 1) := by decide +kernel
theorem dX10_extent_22 : decode cX10_extent 22 = .ok (.invokevirtual 116, 3) := by decide +kernel
theorem dX10_extent_25 : decode cX10_extent 25 = .ok (.invokevirtual 120, 3) := by decide +kernel
theorem dX10_extent_28 : decode cX10_extent 28 = .ok (.ifCond .eq 6, 3) := by decide +kernel
theorem dX10_extent_31 : decode cX10_extent 31 = .ok (.ldc 124, 2) := by decide +kernel
theorem dX10_extent_33 : decode cX10_extent 33 = .ok (.ireturn, 1) := by decide +kernel
theorem dX10_extent_34 : decode cX10_extent 34 = .ok (.aload_n 0, 1) := by decide +kernel
theorem dX10_extent_35 : decode cX10_extent 35 = .ok (.getfield 52, 3) := by decide +kernel
theorem dX10_extent_38 : decode cX10_extent 38 = .ok (.iload_n 1, 1) := by decide +kernel
theorem dX10_extent_39 : decode cX10_extent 39 = .ok (.invokevirtual 116, 3) := by decide +kernel
theorem dX10_extent_42 : decode cX10_extent 42 = .ok (.iload_n 2, 1) := by decide +kernel
theorem dX10_extent_43 : decode cX10_extent 43 = .ok (.invokestatic 171, 3) := by decide +kernel
theorem dX10_extent_46 : decode cX10_extent 46 = .ok (.iload_n 2, 1) := by decide +kernel
theorem dX10_extent_47 : decode cX10_extent 47 = .ok (.invokestatic 174, 3) := by decide +kernel
theorem dX10_extent_50 : decode cX10_extent 50 = .ok (.invokevirtual 177, 3) := by decide +kernel
theorem dX10_extent_53 : decode cX10_extent 53 = .ok (.ireturn, 1) := by decide +kernel
abbrev rmX10_extent : Room := { frames := 2, cells := 0, slots := 0, locals := 80 }
abbrev sX10_extent (E : EV) : List AV → AH → (Option AV → AH → Prop) → Prop := Spec E yX10_extent cX10_extent 3 (some .int) rmX10_extent
theorem mX10_extent : Mt yX10_extent cX10_extent 3 (some .int) 2 := ⟨k599, k1, by decide +kernel⟩
theorem vX10_extent : MtV yX10_extent 10 := ⟨k597, k598, by decide, (RX10, TX10, 12), rfl, rfl⟩
def PX10_extent_0 (E : EV) (post : Option AV → AH → Prop) (h : AH) (l0 : Option Nat) (l1 : Int32) (l2 : Int32) : Prop :=
  CS (sX10_isSlot E) [aI l1] h (kI fun x1 h2 => (x1 = 0 → post (some (aI (-1000001 : Int32))) h2) ∧ (¬ x1 = 0 → CS (sX10_isDirection E) [aI l2] h2 (kI fun x3 h4 => (¬ x3 = 0 → rdP h4 l0 10 5 fun x5 => CV (sX8_slot E) x5 8 [aI l1] h4 (kP fun x6 h7 => CV (sX6_isEmpty E) x6 6 [] h7 (kI fun x8 h9 => (x8 = 0 → rdP h9 l0 10 5 fun x10 => CV (sX8_slot E) x10 8 [aI l1] h9 (kP fun x11 h12 => CS (sX10_directionX E) [aI l2] h12 (kI fun x13 h14 => CS (sX10_directionY E) [aI l2] h14 (kI fun x15 h16 => CV (sX6_reach E) x11 6 [aI x13, aI x15] h16 (kI fun x17 h18 => post (some (aI x17)) h18))))) ∧ (¬ x8 = 0 → post (some (aI (-1000002 : Int32))) h9)))) ∧ (x3 = 0 → post (some (aI (-1000001 : Int32))) h4))))
theorem bX10_extent_0 {E : EV} {X : AX} {post : Option AV → AH → Prop} (C : Cb E X cX10_extent RX10 3 rmX10_extent) (D : Cr E X (some .int) rmX10_extent "extent" post) {h : AH} {l0 : Option Nat} {l1 : Int32} {l2 : Int32} (w : PX10_extent_0 E post h l0 l1 l2) : Go E X 3 0 0 0 [(0, aP l0), (1, aI l1), (2, aI l2)] [] h := by
  unfold PX10_extent_0 at w
  refine r_iload_n C dX10_extent_0 rfl 1 rfl ?_
  refine r_csI (rm' := rmX10_isSlot) C mX10_isSlot vX10_isSlot k366 [aI l1] [] rfl rfl (Nat.le_of_ble_eq_true rfl) (by decide) ⟨Nat.zero_le _, Nat.zero_le _⟩ 0 0 rfl rfl dX10_extent_1 w (fun x1 h2 w => ?_)
  refine r_if_eq C dX10_extent_4 (tgt := 14) rfl (fun hc => ?_) (fun hc => ?_)
  · have w := w.1 hc
    refine r_ldc (v := -1000001) C dX10_extent_14 k352 ?_
    exact r_iret C D rfl (Nat.zero_le _) (Nat.zero_le _) dX10_extent_16 w
  · have w := w.2 hc
    refine r_iload_n C dX10_extent_7 rfl 2 rfl ?_
    refine r_csI (rm' := rmX10_isDirection) C mX10_isDirection vX10_isDirection k600 [aI l2] [] rfl rfl (Nat.le_of_ble_eq_true rfl) (by decide) ⟨Nat.zero_le _, Nat.zero_le _⟩ 0 0 rfl rfl dX10_extent_8 w (fun x3 h4 w => ?_)
    refine r_if_ne C dX10_extent_11 (tgt := 17) rfl (fun hc => ?_) (fun hc => ?_)
    · have w := w.1 hc
      refine r_aload_n C dX10_extent_17 rfl 0 rfl ?_
      refine r_getP C fcX10 (f := 5) (by decide) rfl k316 dX10_extent_18 (w.mono fun x5 w => ?_)
      refine r_iload_n C dX10_extent_21 rfl 1 rfl ?_
      refine r_cvP (rm' := rmX8_slot) C mX8_slot vX8_slot k537 [aI l1] [] rfl rfl (Nat.le_of_ble_eq_true rfl) (by decide) ⟨Nat.zero_le _, Nat.zero_le _⟩ 0 0 rfl rfl dX10_extent_22 w (fun x6 h7 w => ?_)
      refine r_cvI (rm' := rmX6_isEmpty) C mX6_isEmpty vX6_isEmpty k538 [] [] rfl rfl (Nat.le_of_ble_eq_true rfl) (by decide) ⟨Nat.zero_le _, Nat.zero_le _⟩ 0 0 rfl rfl dX10_extent_25 w (fun x8 h9 w => ?_)
      refine r_if_eq C dX10_extent_28 (tgt := 34) rfl (fun hc => ?_) (fun hc => ?_)
      · have w := w.1 hc
        refine r_aload_n C dX10_extent_34 rfl 0 rfl ?_
        refine r_getP C fcX10 (f := 5) (by decide) rfl k316 dX10_extent_35 (w.mono fun x10 w => ?_)
        refine r_iload_n C dX10_extent_38 rfl 1 rfl ?_
        refine r_cvP (rm' := rmX8_slot) C mX8_slot vX8_slot k537 [aI l1] [] rfl rfl (Nat.le_of_ble_eq_true rfl) (by decide) ⟨Nat.zero_le _, Nat.zero_le _⟩ 0 0 rfl rfl dX10_extent_39 w (fun x11 h12 w => ?_)
        refine r_iload_n C dX10_extent_42 rfl 2 rfl ?_
        refine r_csI (rm' := rmX10_directionX) C mX10_directionX vX10_directionX k603 [aI l2] [aP x11] rfl rfl (Nat.le_of_ble_eq_true rfl) (by decide) ⟨Nat.zero_le _, Nat.zero_le _⟩ 0 0 rfl rfl dX10_extent_43 w (fun x13 h14 w => ?_)
        refine r_iload_n C dX10_extent_46 rfl 2 rfl ?_
        refine r_csI (rm' := rmX10_directionY) C mX10_directionY vX10_directionY k608 [aI l2] [aI x13, aP x11] rfl rfl (Nat.le_of_ble_eq_true rfl) (by decide) ⟨Nat.zero_le _, Nat.zero_le _⟩ 0 0 rfl rfl dX10_extent_47 w (fun x15 h16 w => ?_)
        refine r_cvI (rm' := rmX6_reach) C mX6_reach vX6_reach k613 [aI x13, aI x15] [] rfl rfl (Nat.le_of_ble_eq_true rfl) (by decide) ⟨Nat.zero_le _, Nat.zero_le _⟩ 0 0 rfl rfl dX10_extent_50 w (fun x17 h18 w => ?_)
        exact r_iret C D rfl (Nat.zero_le _) (Nat.zero_le _) dX10_extent_53 w
      · have w := w.2 hc
        refine r_ldc (v := -1000002) C dX10_extent_31 k539 ?_
        exact r_iret C D rfl (Nat.zero_le _) (Nat.zero_le _) dX10_extent_33 w
    · have w := w.2 hc
      refine r_ldc (v := -1000001) C dX10_extent_14 k352 ?_
      exact r_iret C D rfl (Nat.zero_le _) (Nat.zero_le _) dX10_extent_16 w
theorem eX10_extent {E : EV} {post : Option AV → AH → Prop} {h : AH} {l0 : Option Nat} {l1 : Int32} {l2 : Int32} (w : PX10_extent_0 E post h l0 l1 l2) : sX10_extent E [aP l0, aI l1, aI l2] h post := Spec.of RX10 rfl rfl (Nat.le_of_ble_eq_true rfl) fun X C D => bX10_extent_0 C D w
theorem dX10_firstUnblocked_0 : decode cX10_firstUnblocked 0 = .ok (.iconst 0, 1) := by decide +kernel
theorem dX10_firstUnblocked_1 : decode cX10_firstUnblocked 1 = .ok (.istore_n 2, 1) := by decide +kernel
theorem dX10_firstUnblocked_2 : decode cX10_firstUnblocked 2 = .ok (.iload_n 2, 1) := by decide +kernel
theorem dX10_firstUnblocked_3 : decode cX10_firstUnblocked 3 = .ok (.aload_n 0, 1) := by decide +kernel
theorem dX10_firstUnblocked_4 : decode cX10_firstUnblocked 4 = .ok (.getfield 52, 3) := by decide +kernel
theorem dX10_firstUnblocked_7 : decode cX10_firstUnblocked 7 = .ok (.getfield 218, 3) := by decide +kernel
theorem dX10_firstUnblocked_10 : decode cX10_firstUnblocked 10 = .ok (.if_icmp .ge 40, 3) := by decide +kernel
theorem dX10_firstUnblocked_13 : decode cX10_firstUnblocked 13 = .ok (.iload_n 2, 1) := by decide +kernel
theorem dX10_firstUnblocked_14 : decode cX10_firstUnblocked 14 = .ok (.aload_n 0, 1) := by decide +kernel
theorem dX10_firstUnblocked_15 : decode cX10_firstUnblocked 15 = .ok (.getfield 84, 3) := by decide +kernel
theorem dX10_firstUnblocked_18 : decode cX10_firstUnblocked 18 = .ok (.arraylength, 1) := by decide +kernel
theorem dX10_firstUnblocked_19 : decode cX10_firstUnblocked 19 = .ok (.if_icmp .ge 31, 3) := by decide +kernel
theorem dX10_firstUnblocked_22 : decode cX10_firstUnblocked 22 = .ok (.iload_n 1, 1) := by decide +kernel
theorem dX10_firstUnblocked_23 : decode cX10_firstUnblocked 23 = .ok (.iload_n 2, 1) := by decide +kernel
theorem dX10_firstUnblocked_24 : decode cX10_firstUnblocked 24 = .ok (.ishr, 1) := by decide +kernel
theorem dX10_firstUnblocked_25 : decode cX10_firstUnblocked 25 = .ok (.iconst 1, 1) := by decide +kernel
theorem dX10_firstUnblocked_26 : decode cX10_firstUnblocked 26 = .ok (.iand, 1) := by decide +kernel
theorem dX10_firstUnblocked_27 : decode cX10_firstUnblocked 27 = .ok (.iconst 1, 1) := by decide +kernel
theorem dX10_firstUnblocked_28 : decode cX10_firstUnblocked 28 = .ok (.if_icmp .ne 16, 3) := by decide +kernel
theorem dX10_firstUnblocked_31 : decode cX10_firstUnblocked 31 = .ok (.aload_n 0, 1) := by decide +kernel
theorem dX10_firstUnblocked_32 : decode cX10_firstUnblocked 32 = .ok (.getfield 84, 3) := by decide +kernel
theorem dX10_firstUnblocked_35 : decode cX10_firstUnblocked 35 = .ok (.iload_n 2, 1) := by decide +kernel
theorem dX10_firstUnblocked_36 : decode cX10_firstUnblocked 36 = .ok (.iaload, 1) := by decide +kernel
theorem dX10_firstUnblocked_37 : decode cX10_firstUnblocked 37 = .ok (.iload_n 1, 1) := by decide +kernel
theorem dX10_firstUnblocked_38 : decode cX10_firstUnblocked 38 = .ok (.iand, 1) := by decide +kernel
theorem dX10_firstUnblocked_39 : decode cX10_firstUnblocked 39 = .ok (.ifCond .ne 5, 3) := by decide +kernel
theorem dX10_firstUnblocked_42 : decode cX10_firstUnblocked 42 = .ok (.iload_n 2, 1) := by decide +kernel
theorem dX10_firstUnblocked_43 : decode cX10_firstUnblocked 43 = .ok (.ireturn, 1) := by decide +kernel
theorem dX10_firstUnblocked_44 : decode cX10_firstUnblocked 44 = .ok (.iinc 2 1, 3) := by decide +kernel
theorem dX10_firstUnblocked_47 : decode cX10_firstUnblocked 47 = .ok (.goto (-45), 3) := by decide +kernel
theorem dX10_firstUnblocked_50 : decode cX10_firstUnblocked 50 = .ok (.iconst (-1), 1) := by decide +kernel
theorem dX10_firstUnblocked_51 : decode cX10_firstUnblocked 51 = .ok (.ireturn, 1) := by decide +kernel
abbrev rmX10_firstUnblocked : Room := { frames := 0, cells := 0, slots := 0, locals := 0 }
abbrev sX10_firstUnblocked (E : EV) : List AV → AH → (Option AV → AH → Prop) → Prop := Spec E yX10_firstUnblocked cX10_firstUnblocked 3 (some .int) rmX10_firstUnblocked
theorem mX10_firstUnblocked : Mt yX10_firstUnblocked cX10_firstUnblocked 3 (some .int) 1 := ⟨k910, k1, by decide +kernel⟩
theorem vX10_firstUnblocked : MtV yX10_firstUnblocked 10 := ⟨k909, kp26, by decide, (RX10, TX10, 12), rfl, rfl⟩
def PX10_firstUnblocked_2 (E : EV) (post : Option AV → AH → Prop) (J2 : AH → Option Nat → Int32 → Int32 → Prop) (h : AH) (l0 : Option Nat) (l1 : Int32) (l2 : Int32) : Prop :=
  rdP h l0 10 5 fun x1 => rdI h x1 8 5 fun x2 => (x2 ≤ l2 → post (some (aI (-1 : Int32))) h) ∧ (¬ x2 ≤ l2 → rdP h l0 10 11 fun x3 => alenI h x3 0 fun x4 => (x4 ≤ l2 → post (some (aI (-1 : Int32))) h) ∧ (¬ x4 ≤ l2 → (¬ ((l1 >>> (l2 &&& 31)) &&& (1 : Int32)) = (1 : Int32) → J2 h l0 l1 (l2 + (1 : Int32))) ∧ (((l1 >>> (l2 &&& 31)) &&& (1 : Int32)) = (1 : Int32) → rdP h l0 10 11 fun x5 => aldI h x5 0 l2 fun x6 => (¬ (x6 &&& l1) = 0 → J2 h l0 l1 (l2 + (1 : Int32))) ∧ ((x6 &&& l1) = 0 → post (some (aI l2)) h))))
theorem bX10_firstUnblocked_2 {E : EV} {X : AX} {post : Option AV → AH → Prop} (C : Cb E X cX10_firstUnblocked RX10 3 rmX10_firstUnblocked) (D : Cr E X (some .int) rmX10_firstUnblocked "firstUnblocked" post) {J2 : AH → Option Nat → Int32 → Int32 → Prop} (g2 : ∀ (h : AH) (l0 : Option Nat) (l1 : Int32) (l2 : Int32), J2 h l0 l1 l2 → Go E X 3 0 0 2 [(0, aP l0), (1, aI l1), (2, aI l2)] [] h) {h : AH} {l0 : Option Nat} {l1 : Int32} {l2 : Int32} (w : PX10_firstUnblocked_2 E post J2 h l0 l1 l2) : Go E X 3 0 0 2 [(0, aP l0), (1, aI l1), (2, aI l2)] [] h := by
  unfold PX10_firstUnblocked_2 at w
  refine r_iload_n C dX10_firstUnblocked_2 rfl 2 rfl ?_
  refine r_aload_n C dX10_firstUnblocked_3 rfl 0 rfl ?_
  refine r_getP C fcX10 (f := 5) (by decide) rfl k316 dX10_firstUnblocked_4 (w.mono fun x1 w => ?_)
  refine r_getI C fcX8 (f := 5) (by decide) rfl k261 dX10_firstUnblocked_7 (w.mono fun x2 w => ?_)
  refine r_icmp_ge C dX10_firstUnblocked_10 (tgt := 50) rfl (fun hc => ?_) (fun hc => ?_)
  · have w := w.1 hc
    refine r_iconst (v := -1) C dX10_firstUnblocked_50 rfl ?_
    exact r_iret C D rfl (Nat.zero_le _) (Nat.zero_le _) dX10_firstUnblocked_51 w
  · have w := w.2 hc
    refine r_iload_n C dX10_firstUnblocked_13 rfl 2 rfl ?_
    refine r_aload_n C dX10_firstUnblocked_14 rfl 0 rfl ?_
    refine r_getP C fcX10 (f := 11) (by decide) rfl k322 dX10_firstUnblocked_15 (w.mono fun x3 w => ?_)
    refine r_alenI 0 0 rfl C dX10_firstUnblocked_18 (w.mono fun x4 w => ?_)
    refine r_icmp_ge C dX10_firstUnblocked_19 (tgt := 50) rfl (fun hc => ?_) (fun hc => ?_)
    · have w := w.1 hc
      refine r_iconst (v := -1) C dX10_firstUnblocked_50 rfl ?_
      exact r_iret C D rfl (Nat.zero_le _) (Nat.zero_le _) dX10_firstUnblocked_51 w
    · have w := w.2 hc
      refine r_iload_n C dX10_firstUnblocked_22 rfl 1 rfl ?_
      refine r_iload_n C dX10_firstUnblocked_23 rfl 2 rfl ?_
      refine r_ishr C dX10_firstUnblocked_24 ?_
      refine r_iconst (v := 1) C dX10_firstUnblocked_25 rfl ?_
      refine r_iand C dX10_firstUnblocked_26 ?_
      refine r_iconst (v := 1) C dX10_firstUnblocked_27 rfl ?_
      refine r_icmp_ne C dX10_firstUnblocked_28 (tgt := 44) rfl (fun hc => ?_) (fun hc => ?_)
      · have w := w.1 hc
        refine r_iinc C dX10_firstUnblocked_44 2 rfl (v := 1) rfl (by decide) rfl ?_
        refine r_goto C dX10_firstUnblocked_47 (tgt := 2) rfl ?_
        exact r_sub [1, 2, 0] rfl (g2 h l0 l1 (l2 + (1 : Int32)) w)
      · have w := w.2 hc
        refine r_aload_n C dX10_firstUnblocked_31 rfl 0 rfl ?_
        refine r_getP C fcX10 (f := 11) (by decide) rfl k322 dX10_firstUnblocked_32 (w.mono fun x5 w => ?_)
        refine r_iload_n C dX10_firstUnblocked_35 rfl 2 rfl ?_
        refine r_iald C dX10_firstUnblocked_36 (w.mono fun x6 w => ?_)
        refine r_iload_n C dX10_firstUnblocked_37 rfl 1 rfl ?_
        refine r_iand C dX10_firstUnblocked_38 ?_
        refine r_if_ne C dX10_firstUnblocked_39 (tgt := 44) rfl (fun hc => ?_) (fun hc => ?_)
        · have w := w.1 hc
          refine r_iinc C dX10_firstUnblocked_44 2 rfl (v := 1) rfl (by decide) rfl ?_
          refine r_goto C dX10_firstUnblocked_47 (tgt := 2) rfl ?_
          exact r_sub [1, 2, 0] rfl (g2 h l0 l1 (l2 + (1 : Int32)) w)
        · have w := w.2 hc
          refine r_iload_n C dX10_firstUnblocked_42 rfl 2 rfl ?_
          exact r_iret C D rfl (Nat.zero_le _) (Nat.zero_le _) dX10_firstUnblocked_43 w
theorem lpX10_firstUnblocked_2 {E : EV} {X : AX} {post : Option AV → AH → Prop} (C : Cb E X cX10_firstUnblocked RX10 3 rmX10_firstUnblocked) (D : Cr E X (some .int) rmX10_firstUnblocked "firstUnblocked" post) (I : Nat → AH → Option Nat → Int32 → Int32 → Prop) (step : ∀ (z : Nat) (h : AH) (l0 : Option Nat) (l1 : Int32) (l2 : Int32), I z h l0 l1 l2 → PX10_firstUnblocked_2 E post (fun h l0 l1 l2 => ∃ z', z' < z ∧ I z' h l0 l1 l2) h l0 l1 l2) : ∀ (z : Nat) (h : AH) (l0 : Option Nat) (l1 : Int32) (l2 : Int32), I z h l0 l1 l2 → Go E X 3 0 0 2 [(0, aP l0), (1, aI l1), (2, aI l2)] [] h := by
  intro z
  induction z using Nat.strongRecOn with
  | _ z ih =>
    intro h l0 l1 l2 hI
    exact bX10_firstUnblocked_2 C D (fun h l0 l1 l2 hJ => by obtain ⟨z', hz, hi⟩ := hJ; exact ih z' hz h l0 l1 l2 hi) (step z h l0 l1 l2 hI)
def PX10_firstUnblocked_0 (E : EV) (post : Option AV → AH → Prop) (J2 : AH → Option Nat → Int32 → Int32 → Prop) (h : AH) (l0 : Option Nat) (l1 : Int32) : Prop :=
  J2 h l0 l1 (0 : Int32)
theorem bX10_firstUnblocked_0 {E : EV} {X : AX} {post : Option AV → AH → Prop} (C : Cb E X cX10_firstUnblocked RX10 3 rmX10_firstUnblocked) (D : Cr E X (some .int) rmX10_firstUnblocked "firstUnblocked" post) {J2 : AH → Option Nat → Int32 → Int32 → Prop} (g2 : ∀ (h : AH) (l0 : Option Nat) (l1 : Int32) (l2 : Int32), J2 h l0 l1 l2 → Go E X 3 0 0 2 [(0, aP l0), (1, aI l1), (2, aI l2)] [] h) {h : AH} {l0 : Option Nat} {l1 : Int32} (w : PX10_firstUnblocked_0 E post J2 h l0 l1) : Go E X 3 0 0 0 [(0, aP l0), (1, aI l1)] [] h := by
  unfold PX10_firstUnblocked_0 at w
  refine r_iconst (v := 0) C dX10_firstUnblocked_0 rfl ?_
  refine r_istore_n C dX10_firstUnblocked_1 rfl (by decide) rfl ?_
  exact r_sub [1, 2, 0] rfl (g2 h l0 l1 (0 : Int32) w)
theorem eX10_firstUnblocked {E : EV} {post : Option AV → AH → Prop} {h : AH} {l0 : Option Nat} {l1 : Int32} {J2 : AH → Option Nat → Int32 → Int32 → Prop} (g2 : ∀ X : AX, Cb E X cX10_firstUnblocked RX10 3 rmX10_firstUnblocked → Cr E X (some .int) rmX10_firstUnblocked "firstUnblocked" post → ∀ (h : AH) (l0 : Option Nat) (l1 : Int32) (l2 : Int32), J2 h l0 l1 l2 → Go E X 3 0 0 2 [(0, aP l0), (1, aI l1), (2, aI l2)] [] h) (w : PX10_firstUnblocked_0 E post J2 h l0 l1) : sX10_firstUnblocked E [aP l0, aI l1] h post := Spec.of RX10 rfl rfl (Nat.le_of_ble_eq_true rfl) fun X C D => bX10_firstUnblocked_0 C D (g2 X C D) w
theorem dX10_fits_0 : decode cX10_fits 0 = .ok (.aload_n 1, 1) := by decide +kernel
theorem dX10_fits_1 : decode cX10_fits 1 = .ok (.invokevirtual 120, 3) := by decide +kernel
theorem dX10_fits_4 : decode cX10_fits 4 = .ok (.ifCond .eq 5, 3) := by decide +kernel
theorem dX10_fits_7 : decode cX10_fits 7 = .ok (.iconst 0, 1) := by decide +kernel
theorem dX10_fits_8 : decode cX10_fits 8 = .ok (.ireturn, 1) := by decide +kernel
theorem dX10_fits_9 : decode cX10_fits 9 = .ok (.aload_n 0, 1) := by decide +kernel
theorem dX10_fits_10 : decode cX10_fits 10 = .ok (.getfield 43, 3) := by decide +kernel
theorem dX10_fits_13 : decode cX10_fits 13 = .ok (.aload_n 0, 1) := by decide +kernel
theorem dX10_fits_14 : decode cX10_fits 14 = .ok (.getfield 52, 3) := by decide +kernel
theorem dX10_fits_17 : decode cX10_fits 17 = .ok (.aload_n 1, 1) := by decide +kernel
theorem dX10_fits_18 : decode cX10_fits 18 = .ok (.iconst (-1), 1) := by decide +kernel
theorem dX10_fits_19 : decode cX10_fits 19 = .ok (.invokevirtual 263, 3) := by decide +kernel
theorem dX10_fits_22 : decode cX10_fits 22 = .ok (.aload_n 0, 1) := by decide +kernel
theorem dX10_fits_23 : decode cX10_fits 23 = .ok (.getfield 43, 3) := by decide +kernel
theorem dX10_fits_26 : decode cX10_fits 26 = .ok (.iload_n 2, 1) := by decide +kernel
theorem dX10_fits_27 : decode cX10_fits 27 = .ok (.iload_n 3, 1) := by decide +kernel
theorem dX10_fits_28 : decode cX10_fits 28 = .ok (.invokevirtual 335, 3) := by decide +kernel
theorem dX10_fits_31 : decode cX10_fits 31 = .ok (.ireturn, 1) := by decide +kernel
abbrev rmX10_fits : Room := { frames := 5, cells := 0, slots := 0, locals := 200 }
abbrev sX10_fits (E : EV) : List AV → AH → (Option AV → AH → Prop) → Prop := Spec E yX10_fits cX10_fits 4 (some .boolean) rmX10_fits
theorem mX10_fits : Mt yX10_fits cX10_fits 4 (some .boolean) 3 := ⟨k761, k1, by decide +kernel⟩
theorem vX10_fits : MtV yX10_fits 10 := ⟨k760, kp14, by decide, (RX10, TX10, 12), rfl, rfl⟩
def PX10_fits_0 (E : EV) (post : Option AV → AH → Prop) (h : AH) (l0 : Option Nat) (l1 : Option Nat) (l2 : Int32) (l3 : Int32) : Prop :=
  CV (sX6_isEmpty E) l1 6 [] h (kI fun x1 h2 => (x1 = 0 → rdP h2 l0 10 4 fun x3 => rdP h2 l0 10 5 fun x4 => CV (sX4_prepare E) x3 4 [aP x4, aP l1, aI (-1 : Int32)] h2 (kV fun h6 => rdP h6 l0 10 4 fun x7 => CV (sX4_isFree E) x7 4 [aI l2, aI l3] h6 (kI fun x8 h9 => (x8 = 0 ∨ x8 = 1) ∧ post (some (aI x8)) h9))) ∧ (¬ x1 = 0 → post (some (aI (0 : Int32))) h2))
theorem bX10_fits_0 {E : EV} {X : AX} {post : Option AV → AH → Prop} (C : Cb E X cX10_fits RX10 4 rmX10_fits) (D : Cr E X (some .boolean) rmX10_fits "fits" post) {h : AH} {l0 : Option Nat} {l1 : Option Nat} {l2 : Int32} {l3 : Int32} (w : PX10_fits_0 E post h l0 l1 l2 l3) : Go E X 4 0 0 0 [(0, aP l0), (1, aP l1), (2, aI l2), (3, aI l3)] [] h := by
  unfold PX10_fits_0 at w
  refine r_aload_n C dX10_fits_0 rfl 1 rfl ?_
  refine r_cvI (rm' := rmX6_isEmpty) C mX6_isEmpty vX6_isEmpty k538 [] [] rfl rfl (Nat.le_of_ble_eq_true rfl) (by decide) ⟨Nat.zero_le _, Nat.zero_le _⟩ 0 0 rfl rfl dX10_fits_1 w (fun x1 h2 w => ?_)
  refine r_if_eq C dX10_fits_4 (tgt := 9) rfl (fun hc => ?_) (fun hc => ?_)
  · have w := w.1 hc
    refine r_aload_n C dX10_fits_9 rfl 0 rfl ?_
    refine r_getP C fcX10 (f := 4) (by decide) rfl k315 dX10_fits_10 (w.mono fun x3 w => ?_)
    refine r_aload_n C dX10_fits_13 rfl 0 rfl ?_
    refine r_getP C fcX10 (f := 5) (by decide) rfl k316 dX10_fits_14 (w.mono fun x4 w => ?_)
    refine r_aload_n C dX10_fits_17 rfl 1 rfl ?_
    refine r_iconst (v := -1) C dX10_fits_18 rfl ?_
    refine r_cvV (rm' := rmX4_prepare) C mX4_prepare vX4_prepare k726 [aP x4, aP l1, aI (-1 : Int32)] [] rfl rfl (Nat.le_of_ble_eq_true rfl) (by decide) ⟨Nat.zero_le _, Nat.zero_le _⟩ 0 0 rfl rfl dX10_fits_19 w (fun h6 w => ?_)
    refine r_aload_n C dX10_fits_22 rfl 0 rfl ?_
    refine r_getP C fcX10 (f := 4) (by decide) rfl k315 dX10_fits_23 (w.mono fun x7 w => ?_)
    refine r_iload_n C dX10_fits_26 rfl 2 rfl ?_
    refine r_iload_n C dX10_fits_27 rfl 3 rfl ?_
    refine r_cvI (rm' := rmX4_isFree) C mX4_isFree vX4_isFree k745 [aI l2, aI l3] [] rfl rfl (Nat.le_of_ble_eq_true rfl) (by decide) ⟨Nat.zero_le _, Nat.zero_le _⟩ 0 0 rfl rfl dX10_fits_28 w (fun x8 h9 w => ?_)
    exact r_zret C D rfl w.1 (Nat.zero_le _) (Nat.zero_le _) dX10_fits_31 w.2
  · have w := w.2 hc
    refine r_iconst (v := 0) C dX10_fits_7 rfl ?_
    exact r_zret C D rfl (Or.inl rfl) (Nat.zero_le _) (Nat.zero_le _) dX10_fits_8 w
theorem eX10_fits {E : EV} {post : Option AV → AH → Prop} {h : AH} {l0 : Option Nat} {l1 : Option Nat} {l2 : Int32} {l3 : Int32} (w : PX10_fits_0 E post h l0 l1 l2 l3) : sX10_fits E [aP l0, aP l1, aI l2, aI l3] h post := Spec.of RX10 rfl rfl (Nat.le_of_ble_eq_true rfl) fun X C D => bX10_fits_0 C D w
theorem dX10_freePlaces_0 : decode cX10_freePlaces 0 = .ok (.iload_n 1, 1) := by decide +kernel
theorem dX10_freePlaces_1 : decode cX10_freePlaces 1 = .ok (.invokestatic 98, 3) := by decide +kernel
theorem dX10_freePlaces_4 : decode cX10_freePlaces 4 = .ok (.ifCond .ne 6, 3) := by decide +kernel
theorem dX10_freePlaces_7 : decode cX10_freePlaces 7 = .ok (.ldc 88, 2) := by decide +kernel
theorem dX10_freePlaces_9 : decode cX10_freePlaces 9 = .ok (.ireturn, 1) := by decide +kernel
theorem dX10_freePlaces_10 : decode cX10_freePlaces 10 = .ok (.aload_n 0, 1) := by decide +kernel
theorem dX10_freePlaces_11 : decode cX10_freePlaces 11 = .ok (.iload_n 1, 1) := by decide +kernel
theorem dX10_freePlaces_12 : decode cX10_freePlaces 12 = .ok (.invokevirtual 188, 3) := by decide +kernel
theorem dX10_freePlaces_15 : decode cX10_freePlaces 15 = .ok (.ifCond .eq 6, 3) := by decide +kernel
theorem dX10_freePlaces_18 : decode cX10_freePlaces 18 = .ok (.ldc 124, 2) := by decide +kernel
theorem dX10_freePlaces_20 : decode cX10_freePlaces 20 = .ok (.ireturn, 1) := by decide +kernel
theorem dX10_freePlaces_21 : decode cX10_freePlaces 21 = .ok (.aload_n 0, 1) := by decide +kernel
theorem dX10_freePlaces_22 : decode cX10_freePlaces 22 = .ok (.getfield 43, 3) := by decide +kernel
theorem dX10_freePlaces_25 : decode cX10_freePlaces 25 = .ok (.aload_n 0, 1) := by decide +kernel
theorem dX10_freePlaces_26 : decode cX10_freePlaces 26 = .ok (.getfield 52, 3) := by decide +kernel
theorem dX10_freePlaces_29 : decode cX10_freePlaces 29 = .ok (.aload_n 0, 1) := by decide +kernel
theorem dX10_freePlaces_30 : decode cX10_freePlaces 30 = .ok (.getfield 52, 3) := by decide +kernel
theorem dX10_freePlaces_33 : decode cX10_freePlaces 33 = .ok (.iload_n 1, 1) := by decide +kernel
theorem dX10_freePlaces_34 : decode cX10_freePlaces 34 = .ok (.invokevirtual 116, 3) := by decide +kernel
theorem dX10_freePlaces_37 : decode cX10_freePlaces 37 = .ok (.iconst (-1), 1) := by decide +kernel
theorem dX10_freePlaces_38 : decode cX10_freePlaces 38 = .ok (.invokevirtual 263, 3) := by decide +kernel
theorem dX10_freePlaces_41 : decode cX10_freePlaces 41 = .ok (.aload_n 0, 1) := by decide +kernel
theorem dX10_freePlaces_42 : decode cX10_freePlaces 42 = .ok (.getfield 43, 3) := by decide +kernel
theorem dX10_freePlaces_45 : decode cX10_freePlaces 45 = .ok (.invokevirtual 276, 3) := by decide +kernel
theorem dX10_freePlaces_48 : decode cX10_freePlaces 48 = .ok (.ireturn, 1) := by decide +kernel
abbrev rmX10_freePlaces : Room := { frames := 5, cells := 0, slots := 0, locals := 200 }
abbrev sX10_freePlaces (E : EV) : List AV → AH → (Option AV → AH → Prop) → Prop := Spec E yX10_freePlaces cX10_freePlaces 2 (some .int) rmX10_freePlaces
theorem mX10_freePlaces : Mt yX10_freePlaces cX10_freePlaces 2 (some .int) 1 := ⟨k867, k1, by decide +kernel⟩
theorem vX10_freePlaces : MtV yX10_freePlaces 10 := ⟨k865, k866, by decide, (RX10, TX10, 12), rfl, rfl⟩
def PX10_freePlaces_0 (E : EV) (post : Option AV → AH → Prop) (h : AH) (l0 : Option Nat) (l1 : Int32) : Prop :=
  CS (sX10_isSlot E) [aI l1] h (kI fun x1 h2 => (¬ x1 = 0 → CV (sX10_isSlotEmpty E) l0 10 [aI l1] h2 (kI fun x3 h4 => (x3 = 0 → rdP h4 l0 10 4 fun x5 => rdP h4 l0 10 5 fun x6 => rdP h4 l0 10 5 fun x7 => CV (sX8_slot E) x7 8 [aI l1] h4 (kP fun x8 h9 => CV (sX4_prepare E) x5 4 [aP x6, aP x8, aI (-1 : Int32)] h9 (kV fun h11 => rdP h11 l0 10 4 fun x12 => CV (sX4_countFree E) x12 4 [] h11 (kI fun x13 h14 => post (some (aI x13)) h14)))) ∧ (¬ x3 = 0 → post (some (aI (-1000002 : Int32))) h4))) ∧ (x1 = 0 → post (some (aI (-1000001 : Int32))) h2))
theorem bX10_freePlaces_0 {E : EV} {X : AX} {post : Option AV → AH → Prop} (C : Cb E X cX10_freePlaces RX10 2 rmX10_freePlaces) (D : Cr E X (some .int) rmX10_freePlaces "freePlaces" post) {h : AH} {l0 : Option Nat} {l1 : Int32} (w : PX10_freePlaces_0 E post h l0 l1) : Go E X 2 0 0 0 [(0, aP l0), (1, aI l1)] [] h := by
  unfold PX10_freePlaces_0 at w
  refine r_iload_n C dX10_freePlaces_0 rfl 1 rfl ?_
  refine r_csI (rm' := rmX10_isSlot) C mX10_isSlot vX10_isSlot k366 [aI l1] [] rfl rfl (Nat.le_of_ble_eq_true rfl) (by decide) ⟨Nat.zero_le _, Nat.zero_le _⟩ 0 0 rfl rfl dX10_freePlaces_1 w (fun x1 h2 w => ?_)
  refine r_if_ne C dX10_freePlaces_4 (tgt := 10) rfl (fun hc => ?_) (fun hc => ?_)
  · have w := w.1 hc
    refine r_aload_n C dX10_freePlaces_10 rfl 0 rfl ?_
    refine r_iload_n C dX10_freePlaces_11 rfl 1 rfl ?_
    refine r_cvI (rm' := rmX10_isSlotEmpty) C mX10_isSlotEmpty vX10_isSlotEmpty k652 [aI l1] [] rfl rfl (Nat.le_of_ble_eq_true rfl) (by decide) ⟨Nat.zero_le _, Nat.zero_le _⟩ 0 0 rfl rfl dX10_freePlaces_12 w (fun x3 h4 w => ?_)
    refine r_if_eq C dX10_freePlaces_15 (tgt := 21) rfl (fun hc => ?_) (fun hc => ?_)
    · have w := w.1 hc
      refine r_aload_n C dX10_freePlaces_21 rfl 0 rfl ?_
      refine r_getP C fcX10 (f := 4) (by decide) rfl k315 dX10_freePlaces_22 (w.mono fun x5 w => ?_)
      refine r_aload_n C dX10_freePlaces_25 rfl 0 rfl ?_
      refine r_getP C fcX10 (f := 5) (by decide) rfl k316 dX10_freePlaces_26 (w.mono fun x6 w => ?_)
      refine r_aload_n C dX10_freePlaces_29 rfl 0 rfl ?_
      refine r_getP C fcX10 (f := 5) (by decide) rfl k316 dX10_freePlaces_30 (w.mono fun x7 w => ?_)
      refine r_iload_n C dX10_freePlaces_33 rfl 1 rfl ?_
      refine r_cvP (rm' := rmX8_slot) C mX8_slot vX8_slot k537 [aI l1] [aP x6, aP x5] rfl rfl (Nat.le_of_ble_eq_true rfl) (by decide) ⟨Nat.zero_le _, Nat.zero_le _⟩ 0 0 rfl rfl dX10_freePlaces_34 w (fun x8 h9 w => ?_)
      refine r_iconst (v := -1) C dX10_freePlaces_37 rfl ?_
      refine r_cvV (rm' := rmX4_prepare) C mX4_prepare vX4_prepare k726 [aP x6, aP x8, aI (-1 : Int32)] [] rfl rfl (Nat.le_of_ble_eq_true rfl) (by decide) ⟨Nat.zero_le _, Nat.zero_le _⟩ 0 0 rfl rfl dX10_freePlaces_38 w (fun h11 w => ?_)
      refine r_aload_n C dX10_freePlaces_41 rfl 0 rfl ?_
      refine r_getP C fcX10 (f := 4) (by decide) rfl k315 dX10_freePlaces_42 (w.mono fun x12 w => ?_)
      refine r_cvI (rm' := rmX4_countFree) C mX4_countFree vX4_countFree k868 [] [] rfl rfl (Nat.le_of_ble_eq_true rfl) (by decide) ⟨Nat.zero_le _, Nat.zero_le _⟩ 0 0 rfl rfl dX10_freePlaces_45 w (fun x13 h14 w => ?_)
      exact r_iret C D rfl (Nat.zero_le _) (Nat.zero_le _) dX10_freePlaces_48 w
    · have w := w.2 hc
      refine r_ldc (v := -1000002) C dX10_freePlaces_18 k539 ?_
      exact r_iret C D rfl (Nat.zero_le _) (Nat.zero_le _) dX10_freePlaces_20 w
  · have w := w.2 hc
    refine r_ldc (v := -1000001) C dX10_freePlaces_7 k352 ?_
    exact r_iret C D rfl (Nat.zero_le _) (Nat.zero_le _) dX10_freePlaces_9 w
theorem eX10_freePlaces {E : EV} {post : Option AV → AH → Prop} {h : AH} {l0 : Option Nat} {l1 : Int32} (w : PX10_freePlaces_0 E post h l0 l1) : sX10_freePlaces E [aP l0, aI l1] h post := Spec.of RX10 rfl rfl (Nat.le_of_ble_eq_true rfl) fun X C D => bX10_freePlaces_0 C D w
theorem dX10_hullSize_0 : decode cX10_hullSize 0 = .ok (.iload_n 1, 1) := by decide +kernel
theorem dX10_hullSize_1 : decode cX10_hullSize 1 = .ok (.invokestatic 98, 3) := by decide +kernel
theorem dX10_hullSize_4 : decode cX10_hullSize 4 = .ok (.ifCond .ne 6, 3) := by decide +kernel
theorem dX10_hullSize_7 : decode cX10_hullSize 7 = .ok (.ldc 88, 2) := by decide +kernel
theorem dX10_hullSize_9 : decode cX10_hullSize 9 = .ok (.ireturn, 1) := by decide +kernel
theorem dX10_hullSize_10 : decode cX10_hullSize 10 = .ok (.aload_n 0, 1) := by decide +kernel
theorem dX10_hullSize_11 : decode cX10_hullSize 11 = .ok (.getfield 52, 3) := by decide +kernel
theorem dX10_hullSize_14 : decode cX10_hullSize 14 = .ok (.iload_n 1, 1) := by decide +kernel
theorem dX10_hullSize_15 : decode cX10_hullSize 15 = .ok (.invokevirtual 116, 3) := by decide +kernel
theorem dX10_hullSize_18 : decode cX10_hullSize 18 = .ok (.invokevirtual 120, 3) := by decide +kernel
theorem dX10_hullSize_21 : decode cX10_hullSize 21 = .ok (.ifCond .eq 6, 3) := by decide +kernel
theorem dX10_hullSize_24 : decode cX10_hullSize 24 = .ok (.ldc 124, 2) := by decide +kernel
theorem dX10_hullSize_26 : decode cX10_hullSize 26 = .ok (.ireturn, 1) := by decide +kernel
theorem dX10_hullSize_27 : decode cX10_hullSize 27 = .ok (.aload_n 0, 1) := by decide +kernel
theorem dX10_hullSize_28 : decode cX10_hullSize 28 = .ok (.getfield 69, 3) := by decide +kernel
theorem dX10_hullSize_31 : decode cX10_hullSize 31 = .ok (.aload_n 0, 1) := by decide +kernel
theorem dX10_hullSize_32 : decode cX10_hullSize 32 = .ok (.getfield 52, 3) := by decide +kernel
theorem dX10_hullSize_35 : decode cX10_hullSize 35 = .ok (.iload_n 1, 1) := by decide +kernel
theorem dX10_hullSize_36 : decode cX10_hullSize 36 = .ok (.invokevirtual 116, 3) := by decide +kernel
theorem dX10_hullSize_39 : decode cX10_hullSize 39 = .ok (.invokevirtual 151, 3) := by decide +kernel
theorem dX10_hullSize_42 : decode cX10_hullSize 42 = .ok (.aload_n 0, 1) := by decide +kernel
theorem dX10_hullSize_43 : decode cX10_hullSize 43 = .ok (.getfield 69, 3) := by decide +kernel
theorem dX10_hullSize_46 : decode cX10_hullSize 46 = .ok (.getfield 154, 3) := by decide +kernel
theorem dX10_hullSize_49 : decode cX10_hullSize 49 = .ok (.ireturn, 1) := by decide +kernel
abbrev rmX10_hullSize : Room := { frames := 3, cells := 0, slots := 0, locals := 120 }
abbrev sX10_hullSize (E : EV) : List AV → AH → (Option AV → AH → Prop) → Prop := Spec E yX10_hullSize cX10_hullSize 2 (some .int) rmX10_hullSize
theorem mX10_hullSize : Mt yX10_hullSize cX10_hullSize 2 (some .int) 1 := ⟨k569, k1, by decide +kernel⟩
theorem vX10_hullSize : MtV yX10_hullSize 10 := ⟨k567, k568, by decide, (RX10, TX10, 12), rfl, rfl⟩
def PX10_hullSize_0 (E : EV) (post : Option AV → AH → Prop) (h : AH) (l0 : Option Nat) (l1 : Int32) : Prop :=
  CS (sX10_isSlot E) [aI l1] h (kI fun x1 h2 => (¬ x1 = 0 → rdP h2 l0 10 5 fun x3 => CV (sX8_slot E) x3 8 [aI l1] h2 (kP fun x4 h5 => CV (sX6_isEmpty E) x4 6 [] h5 (kI fun x6 h7 => (x6 = 0 → rdP h7 l0 10 8 fun x8 => rdP h7 l0 10 5 fun x9 => CV (sX8_slot E) x9 8 [aI l1] h7 (kP fun x10 h11 => CV (sX5_setHull E) x8 5 [aP x10] h11 (kV fun h13 => rdP h13 l0 10 8 fun x14 => rdI h13 x14 5 2 fun x15 => post (some (aI x15)) h13))) ∧ (¬ x6 = 0 → post (some (aI (-1000002 : Int32))) h7)))) ∧ (x1 = 0 → post (some (aI (-1000001 : Int32))) h2))
theorem bX10_hullSize_0 {E : EV} {X : AX} {post : Option AV → AH → Prop} (C : Cb E X cX10_hullSize RX10 2 rmX10_hullSize) (D : Cr E X (some .int) rmX10_hullSize "hullSize" post) {h : AH} {l0 : Option Nat} {l1 : Int32} (w : PX10_hullSize_0 E post h l0 l1) : Go E X 2 0 0 0 [(0, aP l0), (1, aI l1)] [] h := by
  unfold PX10_hullSize_0 at w
  refine r_iload_n C dX10_hullSize_0 rfl 1 rfl ?_
  refine r_csI (rm' := rmX10_isSlot) C mX10_isSlot vX10_isSlot k366 [aI l1] [] rfl rfl (Nat.le_of_ble_eq_true rfl) (by decide) ⟨Nat.zero_le _, Nat.zero_le _⟩ 0 0 rfl rfl dX10_hullSize_1 w (fun x1 h2 w => ?_)
  refine r_if_ne C dX10_hullSize_4 (tgt := 10) rfl (fun hc => ?_) (fun hc => ?_)
  · have w := w.1 hc
    refine r_aload_n C dX10_hullSize_10 rfl 0 rfl ?_
    refine r_getP C fcX10 (f := 5) (by decide) rfl k316 dX10_hullSize_11 (w.mono fun x3 w => ?_)
    refine r_iload_n C dX10_hullSize_14 rfl 1 rfl ?_
    refine r_cvP (rm' := rmX8_slot) C mX8_slot vX8_slot k537 [aI l1] [] rfl rfl (Nat.le_of_ble_eq_true rfl) (by decide) ⟨Nat.zero_le _, Nat.zero_le _⟩ 0 0 rfl rfl dX10_hullSize_15 w (fun x4 h5 w => ?_)
    refine r_cvI (rm' := rmX6_isEmpty) C mX6_isEmpty vX6_isEmpty k538 [] [] rfl rfl (Nat.le_of_ble_eq_true rfl) (by decide) ⟨Nat.zero_le _, Nat.zero_le _⟩ 0 0 rfl rfl dX10_hullSize_18 w (fun x6 h7 w => ?_)
    refine r_if_eq C dX10_hullSize_21 (tgt := 27) rfl (fun hc => ?_) (fun hc => ?_)
    · have w := w.1 hc
      refine r_aload_n C dX10_hullSize_27 rfl 0 rfl ?_
      refine r_getP C fcX10 (f := 8) (by decide) rfl k319 dX10_hullSize_28 (w.mono fun x8 w => ?_)
      refine r_aload_n C dX10_hullSize_31 rfl 0 rfl ?_
      refine r_getP C fcX10 (f := 5) (by decide) rfl k316 dX10_hullSize_32 (w.mono fun x9 w => ?_)
      refine r_iload_n C dX10_hullSize_35 rfl 1 rfl ?_
      refine r_cvP (rm' := rmX8_slot) C mX8_slot vX8_slot k537 [aI l1] [aP x8] rfl rfl (Nat.le_of_ble_eq_true rfl) (by decide) ⟨Nat.zero_le _, Nat.zero_le _⟩ 0 0 rfl rfl dX10_hullSize_36 w (fun x10 h11 w => ?_)
      refine r_cvV (rm' := rmX5_setHull) C mX5_setHull vX5_setHull k570 [aP x10] [] rfl rfl (Nat.le_of_ble_eq_true rfl) (by decide) ⟨Nat.zero_le _, Nat.zero_le _⟩ 0 0 rfl rfl dX10_hullSize_39 w (fun h13 w => ?_)
      refine r_aload_n C dX10_hullSize_42 rfl 0 rfl ?_
      refine r_getP C fcX10 (f := 8) (by decide) rfl k319 dX10_hullSize_43 (w.mono fun x14 w => ?_)
      refine r_getI C fcX5 (f := 2) (by decide) rfl k111 dX10_hullSize_46 (w.mono fun x15 w => ?_)
      exact r_iret C D rfl (Nat.zero_le _) (Nat.zero_le _) dX10_hullSize_49 w
    · have w := w.2 hc
      refine r_ldc (v := -1000002) C dX10_hullSize_24 k539 ?_
      exact r_iret C D rfl (Nat.zero_le _) (Nat.zero_le _) dX10_hullSize_26 w
  · have w := w.2 hc
    refine r_ldc (v := -1000001) C dX10_hullSize_7 k352 ?_
    exact r_iret C D rfl (Nat.zero_le _) (Nat.zero_le _) dX10_hullSize_9 w
theorem eX10_hullSize {E : EV} {post : Option AV → AH → Prop} {h : AH} {l0 : Option Nat} {l1 : Int32} (w : PX10_hullSize_0 E post h l0 l1) : sX10_hullSize E [aP l0, aI l1] h post := Spec.of RX10 rfl rfl (Nat.le_of_ble_eq_true rfl) fun X C D => bX10_hullSize_0 C D w
theorem dX10_isPart_0 : decode cX10_isPart 0 = .ok (.iload_n 0, 1) := by decide +kernel
theorem dX10_isPart_1 : decode cX10_isPart 1 = .ok (.ifCond .eq 8, 3) := by decide +kernel
theorem dX10_isPart_4 : decode cX10_isPart 4 = .ok (.iload_n 0, 1) := by decide +kernel
theorem dX10_isPart_5 : decode cX10_isPart 5 = .ok (.iconst 1, 1) := by decide +kernel
theorem dX10_isPart_6 : decode cX10_isPart 6 = .ok (.if_icmp .ne 7, 3) := by decide +kernel
theorem dX10_isPart_9 : decode cX10_isPart 9 = .ok (.iconst 1, 1) := by decide +kernel
theorem dX10_isPart_10 : decode cX10_isPart 10 = .ok (.goto 4, 3) := by decide +kernel
theorem dX10_isPart_13 : decode cX10_isPart 13 = .ok (.iconst 0, 1) := by decide +kernel
theorem dX10_isPart_14 : decode cX10_isPart 14 = .ok (.ireturn, 1) := by decide +kernel
abbrev rmX10_isPart : Room := { frames := 0, cells := 0, slots := 0, locals := 0 }
abbrev sX10_isPart (E : EV) : List AV → AH → (Option AV → AH → Prop) → Prop := Spec E yX10_isPart cX10_isPart 1 (some .boolean) rmX10_isPart
theorem mX10_isPart : Mt yX10_isPart cX10_isPart 1 (some .boolean) 1 := ⟨k592, k1, by decide +kernel⟩
theorem vX10_isPart : MtS yX10_isPart := k591
def PX10_isPart_0 (E : EV) (post : Option AV → AH → Prop) (h : AH) (l0 : Int32) : Prop :=
  (l0 = 0 → post (some (aI (1 : Int32))) h) ∧ (¬ l0 = 0 → (¬ l0 = (1 : Int32) → post (some (aI (0 : Int32))) h) ∧ (l0 = (1 : Int32) → post (some (aI (1 : Int32))) h))
theorem bX10_isPart_0 {E : EV} {X : AX} {post : Option AV → AH → Prop} (C : Cb E X cX10_isPart RX10 1 rmX10_isPart) (D : Cr E X (some .boolean) rmX10_isPart "isPart" post) {h : AH} {l0 : Int32} (w : PX10_isPart_0 E post h l0) : Go E X 1 0 0 0 [(0, aI l0)] [] h := by
  unfold PX10_isPart_0 at w
  refine r_iload_n C dX10_isPart_0 rfl 0 rfl ?_
  refine r_if_eq C dX10_isPart_1 (tgt := 9) rfl (fun hc => ?_) (fun hc => ?_)
  · have w := w.1 hc
    refine r_iconst (v := 1) C dX10_isPart_9 rfl ?_
    refine r_goto C dX10_isPart_10 (tgt := 14) rfl ?_
    exact r_zret C D rfl (Or.inr rfl) (Nat.zero_le _) (Nat.zero_le _) dX10_isPart_14 w
  · have w := w.2 hc
    refine r_iload_n C dX10_isPart_4 rfl 0 rfl ?_
    refine r_iconst (v := 1) C dX10_isPart_5 rfl ?_
    refine r_icmp_ne C dX10_isPart_6 (tgt := 13) rfl (fun hc => ?_) (fun hc => ?_)
    · have w := w.1 hc
      refine r_iconst (v := 0) C dX10_isPart_13 rfl ?_
      exact r_zret C D rfl (Or.inl rfl) (Nat.zero_le _) (Nat.zero_le _) dX10_isPart_14 w
    · have w := w.2 hc
      refine r_iconst (v := 1) C dX10_isPart_9 rfl ?_
      refine r_goto C dX10_isPart_10 (tgt := 14) rfl ?_
      exact r_zret C D rfl (Or.inr rfl) (Nat.zero_le _) (Nat.zero_le _) dX10_isPart_14 w
theorem eX10_isPart {E : EV} {post : Option AV → AH → Prop} {h : AH} {l0 : Int32} (w : PX10_isPart_0 E post h l0) : sX10_isPart E [aI l0] h post := Spec.of RX10 rfl rfl (Nat.le_of_ble_eq_true rfl) fun X C D => bX10_isPart_0 C D w
theorem dX10_hullVertex_0 : decode cX10_hullVertex 0 = .ok (.iload_n 1, 1) := by decide +kernel
theorem dX10_hullVertex_1 : decode cX10_hullVertex 1 = .ok (.invokestatic 98, 3) := by decide +kernel
theorem dX10_hullVertex_4 : decode cX10_hullVertex 4 = .ok (.ifCond .eq 14, 3) := by decide +kernel
theorem dX10_hullVertex_7 : decode cX10_hullVertex 7 = .ok (.iload_n 3, 1) := by decide +kernel
theorem dX10_hullVertex_8 : decode cX10_hullVertex 8 = .ok (.invokestatic 157, 3) := by decide +kernel
theorem dX10_hullVertex_11 : decode cX10_hullVertex 11 = .ok (.ifCond .eq 7, 3) := by decide +kernel
theorem dX10_hullVertex_14 : decode cX10_hullVertex 14 = .ok (.iload_n 2, 1) := by decide +kernel
theorem dX10_hullVertex_15 : decode cX10_hullVertex 15 = .ok (.ifCond .ge 6, 3) := by decide +kernel
theorem dX10_hullVertex_18 : decode cX10_hullVertex 18 = .ok (.ldc 88, 2) := by decide +kernel
theorem dX10_hullVertex_20 : decode cX10_hullVertex 20 = .ok (.ireturn, 1) := by decide +kernel
theorem dX10_hullVertex_21 : decode cX10_hullVertex 21 = .ok (.aload_n 0, 1) := by decide +kernel
theorem dX10_hullVertex_22 : decode cX10_hullVertex 22 = .ok (.getfield 52, 3) := by decide +kernel
theorem dX10_hullVertex_25 : decode cX10_hullVertex 25 = .ok (.iload_n 1, 1) := by decide +kernel
theorem dX10_hullVertex_26 : decode cX10_hullVertex 26 = .ok (.invokevirtual 116, 3) := by decide +kernel
theorem dX10_hullVertex_29 : decode cX10_hullVertex 29 = .ok (.invokevirtual 120, 3) := by decide +kernel
theorem dX10_hullVertex_32 : decode cX10_hullVertex 32 = .ok (.ifCond .eq 6, 3) := by decide +kernel
theorem dX10_hullVertex_35 : decode cX10_hullVertex 35 = .ok (.ldc 124, 2) := by decide +kernel
theorem dX10_hullVertex_37 : decode cX10_hullVertex 37 = .ok (.ireturn, 1) := by decide +kernel
theorem dX10_hullVertex_38 : decode cX10_hullVertex 38 = .ok (.aload_n 0, 1) := by decide +kernel
theorem dX10_hullVertex_39 : decode cX10_hullVertex 39 = .ok (.getfield 69, 3) := by decide +kernel
theorem dX10_hullVertex_42 : decode cX10_hullVertex 42 = .ok (.aload_n 0, 1) := by decide +kernel
theorem dX10_hullVertex_43 : decode cX10_hullVertex 43 = .ok (.getfield 52, 3) := by decide +kernel
theorem dX10_hullVertex_46 : decode cX10_hullVertex 46 = .ok (.iload_n 1, 1) := by decide +kernel
theorem dX10_hullVertex_47 : decode cX10_hullVertex 47 = .ok (.invokevirtual 116, 3) := by decide +kernel
theorem dX10_hullVertex_50 : decode cX10_hullVertex 50 = .ok (.invokevirtual 151, 3) := by decide +kernel
theorem dX10_hullVertex_53 : decode cX10_hullVertex 53 = .ok (.iload_n 2, 1) := by decide +kernel
theorem dX10_hullVertex_54 : decode cX10_hullVertex 54 = .ok (.aload_n 0, 1) := by decide +kernel
theorem dX10_hullVertex_55 : decode cX10_hullVertex 55 = .ok (.getfield 69, 3) := by decide +kernel
theorem dX10_hullVertex_58 : decode cX10_hullVertex 58 = .ok (.getfield 154, 3) := by decide +kernel
theorem dX10_hullVertex_61 : decode cX10_hullVertex 61 = .ok (.if_icmp .lt 6, 3) := by decide +kernel
theorem dX10_hullVertex_64 : decode cX10_hullVertex 64 = .ok (.ldc 160, 2) := by decide +kernel
theorem dX10_hullVertex_66 : decode cX10_hullVertex 66 = .ok (.ireturn, 1) := by decide +kernel
theorem dX10_hullVertex_67 : decode cX10_hullVertex 67 = .ok (.iload_n 3, 1) := by decide +kernel
theorem dX10_hullVertex_68 : decode cX10_hullVertex 68 = .ok (.ifCond .ne 14, 3) := by decide +kernel
theorem dX10_hullVertex_71 : decode cX10_hullVertex 71 = .ok (.aload_n 0, 1) := by decide +kernel
theorem dX10_hullVertex_72 : decode cX10_hullVertex 72 = .ok (.getfield 69, 3) := by decide +kernel
theorem dX10_hullVertex_75 : decode cX10_hullVertex 75 = .ok (.iload_n 2, 1) := by decide +kernel
theorem dX10_hullVertex_76 : decode cX10_hullVertex 76 = .ok (.invokevirtual 161, 3) := by decide +kernel
theorem dX10_hullVertex_79 : decode cX10_hullVertex 79 = .ok (.goto 11, 3) := by decide +kernel
theorem dX10_hullVertex_82 : decode cX10_hullVertex 82 = .ok (.aload_n 0, 1) := by decide +kernel
theorem dX10_hullVertex_83 : decode cX10_hullVertex 83 = .ok (.getfield 69, 3) := by decide +kernel
theorem dX10_hullVertex_86 : decode cX10_hullVertex 86 = .ok (.iload_n 2, 1) := by decide +kernel
theorem dX10_hullVertex_87 : decode cX10_hullVertex 87 = .ok (.invokevirtual 165, 3) := by decide +kernel
theorem dX10_hullVertex_90 : decode cX10_hullVertex 90 = .ok (.ireturn, 1) := by decide +kernel
abbrev rmX10_hullVertex : Room := { frames := 3, cells := 0, slots := 0, locals := 120 }
abbrev sX10_hullVertex (E : EV) : List AV → AH → (Option AV → AH → Prop) → Prop := Spec E yX10_hullVertex cX10_hullVertex 4 (some .int) rmX10_hullVertex
theorem mX10_hullVertex : Mt yX10_hullVertex cX10_hullVertex 4 (some .int) 3 := ⟨k589, k1, by decide +kernel⟩
theorem vX10_hullVertex : MtV yX10_hullVertex 10 := ⟨k587, k588, by decide, (RX10, TX10, 12), rfl, rfl⟩
def PX10_hullVertex_0 (E : EV) (post : Option AV → AH → Prop) (h : AH) (l0 : Option Nat) (l1 : Int32) (l2 : Int32) (l3 : Int32) : Prop :=
  CS (sX10_isSlot E) [aI l1] h (kI fun x1 h2 => (x1 = 0 → post (some (aI (-1000001 : Int32))) h2) ∧ (¬ x1 = 0 → CS (sX10_isPart E) [aI l3] h2 (kI fun x3 h4 => (x3 = 0 → post (some (aI (-1000001 : Int32))) h4) ∧ (¬ x3 = 0 → (0 ≤ l2 → rdP h4 l0 10 5 fun x5 => CV (sX8_slot E) x5 8 [aI l1] h4 (kP fun x6 h7 => CV (sX6_isEmpty E) x6 6 [] h7 (kI fun x8 h9 => (x8 = 0 → rdP h9 l0 10 8 fun x10 => rdP h9 l0 10 5 fun x11 => CV (sX8_slot E) x11 8 [aI l1] h9 (kP fun x12 h13 => CV (sX5_setHull E) x10 5 [aP x12] h13 (kV fun h15 => rdP h15 l0 10 8 fun x16 => rdI h15 x16 5 2 fun x17 => (l2 < x17 → (¬ l3 = 0 → rdP h15 l0 10 8 fun x18 => CV (sX5_y E) x18 5 [aI l2] h15 (kI fun x19 h20 => post (some (aI x19)) h20)) ∧ (l3 = 0 → rdP h15 l0 10 8 fun x18 => CV (sX5_x E) x18 5 [aI l2] h15 (kI fun x19 h20 => post (some (aI x19)) h20))) ∧ (¬ l2 < x17 → post (some (aI (-1000009 : Int32))) h15)))) ∧ (¬ x8 = 0 → post (some (aI (-1000002 : Int32))) h9)))) ∧ (¬ 0 ≤ l2 → post (some (aI (-1000001 : Int32))) h4)))))
theorem bX10_hullVertex_0 {E : EV} {X : AX} {post : Option AV → AH → Prop} (C : Cb E X cX10_hullVertex RX10 4 rmX10_hullVertex) (D : Cr E X (some .int) rmX10_hullVertex "hullVertex" post) {h : AH} {l0 : Option Nat} {l1 : Int32} {l2 : Int32} {l3 : Int32} (w : PX10_hullVertex_0 E post h l0 l1 l2 l3) : Go E X 4 0 0 0 [(0, aP l0), (1, aI l1), (2, aI l2), (3, aI l3)] [] h := by
  unfold PX10_hullVertex_0 at w
  refine r_iload_n C dX10_hullVertex_0 rfl 1 rfl ?_
  refine r_csI (rm' := rmX10_isSlot) C mX10_isSlot vX10_isSlot k366 [aI l1] [] rfl rfl (Nat.le_of_ble_eq_true rfl) (by decide) ⟨Nat.zero_le _, Nat.zero_le _⟩ 0 0 rfl rfl dX10_hullVertex_1 w (fun x1 h2 w => ?_)
  refine r_if_eq C dX10_hullVertex_4 (tgt := 18) rfl (fun hc => ?_) (fun hc => ?_)
  · have w := w.1 hc
    refine r_ldc (v := -1000001) C dX10_hullVertex_18 k352 ?_
    exact r_iret C D rfl (Nat.zero_le _) (Nat.zero_le _) dX10_hullVertex_20 w
  · have w := w.2 hc
    refine r_iload_n C dX10_hullVertex_7 rfl 3 rfl ?_
    refine r_csI (rm' := rmX10_isPart) C mX10_isPart vX10_isPart k590 [aI l3] [] rfl rfl (Nat.le_of_ble_eq_true rfl) (by decide) ⟨Nat.zero_le _, Nat.zero_le _⟩ 0 0 rfl rfl dX10_hullVertex_8 w (fun x3 h4 w => ?_)
    refine r_if_eq C dX10_hullVertex_11 (tgt := 18) rfl (fun hc => ?_) (fun hc => ?_)
    · have w := w.1 hc
      refine r_ldc (v := -1000001) C dX10_hullVertex_18 k352 ?_
      exact r_iret C D rfl (Nat.zero_le _) (Nat.zero_le _) dX10_hullVertex_20 w
    · have w := w.2 hc
      refine r_iload_n C dX10_hullVertex_14 rfl 2 rfl ?_
      refine r_if_ge C dX10_hullVertex_15 (tgt := 21) rfl (fun hc => ?_) (fun hc => ?_)
      · have w := w.1 hc
        refine r_aload_n C dX10_hullVertex_21 rfl 0 rfl ?_
        refine r_getP C fcX10 (f := 5) (by decide) rfl k316 dX10_hullVertex_22 (w.mono fun x5 w => ?_)
        refine r_iload_n C dX10_hullVertex_25 rfl 1 rfl ?_
        refine r_cvP (rm' := rmX8_slot) C mX8_slot vX8_slot k537 [aI l1] [] rfl rfl (Nat.le_of_ble_eq_true rfl) (by decide) ⟨Nat.zero_le _, Nat.zero_le _⟩ 0 0 rfl rfl dX10_hullVertex_26 w (fun x6 h7 w => ?_)
        refine r_cvI (rm' := rmX6_isEmpty) C mX6_isEmpty vX6_isEmpty k538 [] [] rfl rfl (Nat.le_of_ble_eq_true rfl) (by decide) ⟨Nat.zero_le _, Nat.zero_le _⟩ 0 0 rfl rfl dX10_hullVertex_29 w (fun x8 h9 w => ?_)
        refine r_if_eq C dX10_hullVertex_32 (tgt := 38) rfl (fun hc => ?_) (fun hc => ?_)
        · have w := w.1 hc
          refine r_aload_n C dX10_hullVertex_38 rfl 0 rfl ?_
          refine r_getP C fcX10 (f := 8) (by decide) rfl k319 dX10_hullVertex_39 (w.mono fun x10 w => ?_)
          refine r_aload_n C dX10_hullVertex_42 rfl 0 rfl ?_
          refine r_getP C fcX10 (f := 5) (by decide) rfl k316 dX10_hullVertex_43 (w.mono fun x11 w => ?_)
          refine r_iload_n C dX10_hullVertex_46 rfl 1 rfl ?_
          refine r_cvP (rm' := rmX8_slot) C mX8_slot vX8_slot k537 [aI l1] [aP x10] rfl rfl (Nat.le_of_ble_eq_true rfl) (by decide) ⟨Nat.zero_le _, Nat.zero_le _⟩ 0 0 rfl rfl dX10_hullVertex_47 w (fun x12 h13 w => ?_)
          refine r_cvV (rm' := rmX5_setHull) C mX5_setHull vX5_setHull k570 [aP x12] [] rfl rfl (Nat.le_of_ble_eq_true rfl) (by decide) ⟨Nat.zero_le _, Nat.zero_le _⟩ 0 0 rfl rfl dX10_hullVertex_50 w (fun h15 w => ?_)
          refine r_iload_n C dX10_hullVertex_53 rfl 2 rfl ?_
          refine r_aload_n C dX10_hullVertex_54 rfl 0 rfl ?_
          refine r_getP C fcX10 (f := 8) (by decide) rfl k319 dX10_hullVertex_55 (w.mono fun x16 w => ?_)
          refine r_getI C fcX5 (f := 2) (by decide) rfl k111 dX10_hullVertex_58 (w.mono fun x17 w => ?_)
          refine r_icmp_lt C dX10_hullVertex_61 (tgt := 67) rfl (fun hc => ?_) (fun hc => ?_)
          · have w := w.1 hc
            refine r_iload_n C dX10_hullVertex_67 rfl 3 rfl ?_
            refine r_if_ne C dX10_hullVertex_68 (tgt := 82) rfl (fun hc => ?_) (fun hc => ?_)
            · have w := w.1 hc
              refine r_aload_n C dX10_hullVertex_82 rfl 0 rfl ?_
              refine r_getP C fcX10 (f := 8) (by decide) rfl k319 dX10_hullVertex_83 (w.mono fun x18 w => ?_)
              refine r_iload_n C dX10_hullVertex_86 rfl 2 rfl ?_
              refine r_cvI (rm' := rmX5_y) C mX5_y vX5_y k595 [aI l2] [] rfl rfl (Nat.le_of_ble_eq_true rfl) (by decide) ⟨Nat.zero_le _, Nat.zero_le _⟩ 0 0 rfl rfl dX10_hullVertex_87 w (fun x19 h20 w => ?_)
              exact r_iret C D rfl (Nat.zero_le _) (Nat.zero_le _) dX10_hullVertex_90 w
            · have w := w.2 hc
              refine r_aload_n C dX10_hullVertex_71 rfl 0 rfl ?_
              refine r_getP C fcX10 (f := 8) (by decide) rfl k319 dX10_hullVertex_72 (w.mono fun x18 w => ?_)
              refine r_iload_n C dX10_hullVertex_75 rfl 2 rfl ?_
              refine r_cvI (rm' := rmX5_x) C mX5_x vX5_x k594 [aI l2] [] rfl rfl (Nat.le_of_ble_eq_true rfl) (by decide) ⟨Nat.zero_le _, Nat.zero_le _⟩ 0 0 rfl rfl dX10_hullVertex_76 w (fun x19 h20 w => ?_)
              refine r_goto C dX10_hullVertex_79 (tgt := 90) rfl ?_
              exact r_iret C D rfl (Nat.zero_le _) (Nat.zero_le _) dX10_hullVertex_90 w
          · have w := w.2 hc
            refine r_ldc (v := -1000009) C dX10_hullVertex_64 k593 ?_
            exact r_iret C D rfl (Nat.zero_le _) (Nat.zero_le _) dX10_hullVertex_66 w
        · have w := w.2 hc
          refine r_ldc (v := -1000002) C dX10_hullVertex_35 k539 ?_
          exact r_iret C D rfl (Nat.zero_le _) (Nat.zero_le _) dX10_hullVertex_37 w
      · have w := w.2 hc
        refine r_ldc (v := -1000001) C dX10_hullVertex_18 k352 ?_
        exact r_iret C D rfl (Nat.zero_le _) (Nat.zero_le _) dX10_hullVertex_20 w
theorem eX10_hullVertex {E : EV} {post : Option AV → AH → Prop} {h : AH} {l0 : Option Nat} {l1 : Int32} {l2 : Int32} {l3 : Int32} (w : PX10_hullVertex_0 E post h l0 l1 l2 l3) : sX10_hullVertex E [aP l0, aI l1, aI l2, aI l3] h post := Spec.of RX10 rfl rfl (Nat.le_of_ble_eq_true rfl) fun X C D => bX10_hullVertex_0 C D w
theorem dX10_init_0 : decode cX10_init 0 = .ok (.aload_n 0, 1) := by decide +kernel
theorem dX10_init_1 : decode cX10_init 1 = .ok (.invokespecial 1, 3) := by decide +kernel
theorem dX10_init_4 : decode cX10_init 4 = .ok (.new 7, 3) := by decide +kernel
theorem dX10_init_7 : decode cX10_init 7 = .ok (.dup, 1) := by decide +kernel
theorem dX10_init_8 : decode cX10_init 8 = .ok (.invokespecial 9, 3) := by decide +kernel
theorem dX10_init_11 : decode cX10_init 11 = .ok (.astore_n 1, 1) := by decide +kernel
theorem dX10_init_12 : decode cX10_init 12 = .ok (.aload_n 0, 1) := by decide +kernel
theorem dX10_init_13 : decode cX10_init 13 = .ok (.new 10, 3) := by decide +kernel
theorem dX10_init_16 : decode cX10_init 16 = .ok (.dup, 1) := by decide +kernel
theorem dX10_init_17 : decode cX10_init 17 = .ok (.invokespecial 12, 3) := by decide +kernel
theorem dX10_init_20 : decode cX10_init 20 = .ok (.putfield 13, 3) := by decide +kernel
theorem dX10_init_23 : decode cX10_init 23 = .ok (.aload_n 0, 1) := by decide +kernel
theorem dX10_init_24 : decode cX10_init 24 = .ok (.new 19, 3) := by decide +kernel
theorem dX10_init_27 : decode cX10_init 27 = .ok (.dup, 1) := by decide +kernel
theorem dX10_init_28 : decode cX10_init 28 = .ok (.invokespecial 21, 3) := by decide +kernel
theorem dX10_init_31 : decode cX10_init 31 = .ok (.putfield 22, 3) := by decide +kernel
theorem dX10_init_34 : decode cX10_init 34 = .ok (.aload_n 0, 1) := by decide +kernel
theorem dX10_init_35 : decode cX10_init 35 = .ok (.new 26, 3) := by decide +kernel
theorem dX10_init_38 : decode cX10_init 38 = .ok (.dup, 1) := by decide +kernel
theorem dX10_init_39 : decode cX10_init 39 = .ok (.invokespecial 28, 3) := by decide +kernel
theorem dX10_init_42 : decode cX10_init 42 = .ok (.putfield 29, 3) := by decide +kernel
theorem dX10_init_45 : decode cX10_init 45 = .ok (.aload_n 0, 1) := by decide +kernel
theorem dX10_init_46 : decode cX10_init 46 = .ok (.new 33, 3) := by decide +kernel
theorem dX10_init_49 : decode cX10_init 49 = .ok (.dup, 1) := by decide +kernel
theorem dX10_init_50 : decode cX10_init 50 = .ok (.invokespecial 35, 3) := by decide +kernel
theorem dX10_init_53 : decode cX10_init 53 = .ok (.putfield 36, 3) := by decide +kernel
theorem dX10_init_56 : decode cX10_init 56 = .ok (.aload_n 0, 1) := by decide +kernel
theorem dX10_init_57 : decode cX10_init 57 = .ok (.new 40, 3) := by decide +kernel
theorem dX10_init_60 : decode cX10_init 60 = .ok (.dup, 1) := by decide +kernel
theorem dX10_init_61 : decode cX10_init 61 = .ok (.invokespecial 42, 3) := by decide +kernel
theorem dX10_init_64 : decode cX10_init 64 = .ok (.putfield 43, 3) := by decide +kernel
theorem dX10_init_67 : decode cX10_init 67 = .ok (.aload_n 0, 1) := by decide +kernel
theorem dX10_init_68 : decode cX10_init 68 = .ok (.new 47, 3) := by decide +kernel
theorem dX10_init_71 : decode cX10_init 71 = .ok (.dup, 1) := by decide +kernel
theorem dX10_init_72 : decode cX10_init 72 = .ok (.aload_n 1, 1) := by decide +kernel
theorem dX10_init_73 : decode cX10_init 73 = .ok (.invokespecial 49, 3) := by decide +kernel
theorem dX10_init_76 : decode cX10_init 76 = .ok (.putfield 52, 3) := by decide +kernel
theorem dX10_init_79 : decode cX10_init 79 = .ok (.aload_n 0, 1) := by decide +kernel
theorem dX10_init_80 : decode cX10_init 80 = .ok (.new 47, 3) := by decide +kernel
theorem dX10_init_83 : decode cX10_init 83 = .ok (.dup, 1) := by decide +kernel
theorem dX10_init_84 : decode cX10_init 84 = .ok (.aload_n 1, 1) := by decide +kernel
theorem dX10_init_85 : decode cX10_init 85 = .ok (.invokespecial 49, 3) := by decide +kernel
theorem dX10_init_88 : decode cX10_init 88 = .ok (.putfield 56, 3) := by decide +kernel
theorem dX10_init_91 : decode cX10_init 91 = .ok (.aload_n 0, 1) := by decide +kernel
theorem dX10_init_92 : decode cX10_init 92 = .ok (.new 59, 3) := by decide +kernel
theorem dX10_init_95 : decode cX10_init 95 = .ok (.dup, 1) := by decide +kernel
theorem dX10_init_96 : decode cX10_init 96 = .ok (.aload_n 1, 1) := by decide +kernel
theorem dX10_init_97 : decode cX10_init 97 = .ok (.invokespecial 61, 3) := by decide +kernel
theorem dX10_init_100 : decode cX10_init 100 = .ok (.putfield 62, 3) := by decide +kernel
theorem dX10_init_103 : decode cX10_init 103 = .ok (.aload_n 0, 1) := by decide +kernel
theorem dX10_init_104 : decode cX10_init 104 = .ok (.new 66, 3) := by decide +kernel
theorem dX10_init_107 : decode cX10_init 107 = .ok (.dup, 1) := by decide +kernel
theorem dX10_init_108 : decode cX10_init 108 = .ok (.invokespecial 68, 3) := by decide +kernel
theorem dX10_init_111 : decode cX10_init 111 = .ok (.putfield 69, 3) := by decide +kernel
theorem dX10_init_114 : decode cX10_init 114 = .ok (.aload_n 0, 1) := by decide +kernel
theorem dX10_init_115 : decode cX10_init 115 = .ok (.new 7, 3) := by decide +kernel
theorem dX10_init_118 : decode cX10_init 118 = .ok (.dup, 1) := by decide +kernel
theorem dX10_init_119 : decode cX10_init 119 = .ok (.invokespecial 9, 3) := by decide +kernel
theorem dX10_init_122 : decode cX10_init 122 = .ok (.putfield 73, 3) := by decide +kernel
theorem dX10_init_125 : decode cX10_init 125 = .ok (.aload_n 0, 1) := by decide +kernel
theorem dX10_init_126 : decode cX10_init 126 = .ok (.new 77, 3) := by decide +kernel
theorem dX10_init_129 : decode cX10_init 129 = .ok (.dup, 1) := by decide +kernel
theorem dX10_init_130 : decode cX10_init 130 = .ok (.invokespecial 79, 3) := by decide +kernel
theorem dX10_init_133 : decode cX10_init 133 = .ok (.putfield 80, 3) := by decide +kernel
theorem dX10_init_136 : decode cX10_init 136 = .ok (.aload_n 0, 1) := by decide +kernel
theorem dX10_init_137 : decode cX10_init 137 = .ok (.bipush 8, 2) := by decide +kernel
theorem dX10_init_139 : decode cX10_init 139 = .ok (.newarray .int, 2) := by decide +kernel
theorem dX10_init_141 : decode cX10_init 141 = .ok (.putfield 84, 3) := by decide +kernel
theorem dX10_init_144 : decode cX10_init 144 = .ok (.return_, 1) := by decide +kernel
abbrev rmX10_init : Room := { frames := 4, cells := 350, slots := 6000, locals := 160 }
abbrev sX10_init (E : EV) : List AV → AH → (Option AV → AH → Prop) → Prop := Spec E yX10_init cX10_init 2 none rmX10_init
theorem mX10_init : Mt yX10_init cX10_init 2 none 0 := ⟨k18, k1, by decide +kernel⟩
theorem vX10_init : MtI yX10_init := ⟨rfl, k17⟩
def PX10_init_103 (E : EV) (post : Option AV → AH → Prop) (k n : Nat) (h : AH) (l0 : Nat) : Prop :=
  (k + 1 ≤ 350 ∧ n + 8 ≤ 6000) ∧ (∀ h1, h1 = h ++ [.inr (5, [aP none, aP none, aI 0, aI 0, aI 0, aI 0, aI 0, aI 0])] → ((k + 1) + 2 ≤ 350 ∧ (n + 8) + 36 ≤ 6000) ∧ CS (sX5_init E) [aP (some h.length)] h1 (kV fun h3 => wr h3 (some l0) 10 8 (aP (some h.length)) fun h4 => (((k + 1) + 2) + 1 ≤ 350 ∧ ((n + 8) + 36) + 9 ≤ 6000) ∧ (∀ h5, h5 = h4 ++ [.inr (6, [aP none, aP none, aP none, aI 0, aI 0, aI 0, aI 0, aI 0, aI 0])] → ((((k + 1) + 2) + 1) + 3 ≤ 350 ∧ (((n + 8) + 36) + 9) + 40 ≤ 6000) ∧ CS (sX6_init E) [aP (some h4.length)] h5 (kV fun h7 => wr h7 (some l0) 10 9 (aP (some h4.length)) fun h8 => (((((k + 1) + 2) + 1) + 3) + 1 ≤ 350 ∧ ((((n + 8) + 36) + 9) + 40) + 2 ≤ 6000) ∧ (∀ h9, h9 = h8 ++ [.inr (0, [aJ 0, aJ 0])] → ((((((k + 1) + 2) + 1) + 3) + 1) ≤ 350 ∧ (((((n + 8) + 36) + 9) + 40) + 2) ≤ 6000) ∧ CS (sX0_init E) [aP (some h8.length)] h9 (kV fun h11 => wr h11 (some l0) 10 10 (aP (some h8.length)) fun h12 => ((((((k + 1) + 2) + 1) + 3) + 1) + 1 ≤ 350 ∧ (((((n + 8) + 36) + 9) + 40) + 2) + 8 ≤ 6000) ∧ (∀ h13, h13 = h12 ++ [.inl (0, List.replicate 8 0)] → wr h13 (some l0) 10 11 (aP (some h12.length)) fun h14 => (((((((k + 1) + 2) + 1) + 3) + 1) + 1) ≤ 350 ∧ ((((((n + 8) + 36) + 9) + 40) + 2) + 8) ≤ 6000) ∧ post none h14)))))))
theorem bX10_init_103 {E : EV} {X : AX} {post : Option AV → AH → Prop} (C : Cb E X cX10_init RX10 2 rmX10_init) (D : Cr E X none rmX10_init "<init>" post) {k n : Nat} {h : AH} {l0 : Nat} (w : PX10_init_103 E post k n h l0) : Go E X 2 k n 103 [(0, aP (some l0))] [] h := by
  unfold PX10_init_103 at w
  refine r_aload_n C dX10_init_103 rfl 0 rfl ?_
  refine r_new (fs := [aP none, aP none, aI 0, aI 0, aI 0, aI 0, aI 0, aI 0]) C fcX5 rfl df_X5 k307 k102 k5 w.1.1 w.1.2 dX10_init_104 ?_
  have w := w.2 _ rfl
  generalize h ++ [.inr (5, [aP none, aP none, aI 0, aI 0, aI 0, aI 0, aI 0, aI 0])] = h1 at w ⊢
  refine r_dup C dX10_init_107 rfl ?_
  refine r_ciV (rm' := rmX5_init) C mX5_init vX5_init (host := "NestingPlanner") (Or.inr nk308) [] [aP (some h.length), aP (some l0)] rfl rfl (Nat.le_of_ble_eq_true rfl) (by decide) w.1 ((k + 1) + 2) ((n + 8) + 36) rfl rfl dX10_init_108 rfl w.2 (fun h3 w => ?_)
  refine r_putF C D fcX10 (f := 8) (by decide) rfl rfl rfl rfl (ft_P _ _) k319 dX10_init_111 (w.mono fun h4 w => ?_)
  refine r_aload_n C dX10_init_114 rfl 0 rfl ?_
  refine r_new (fs := [aP none, aP none, aP none, aI 0, aI 0, aI 0, aI 0, aI 0, aI 0]) C fcX6 rfl df_X6 k22 k23 k2 w.1.1 w.1.2 dX10_init_115 ?_
  have w := w.2 _ rfl
  generalize h4 ++ [.inr (6, [aP none, aP none, aP none, aI 0, aI 0, aI 0, aI 0, aI 0, aI 0])] = h5 at w ⊢
  refine r_dup C dX10_init_118 rfl ?_
  refine r_ciV (rm' := rmX6_init) C mX6_init vX6_init (host := "NestingPlanner") (Or.inr nk24) [] [aP (some h4.length), aP (some l0)] rfl rfl (Nat.le_of_ble_eq_true rfl) (by decide) w.1 ((((k + 1) + 2) + 1) + 3) ((((n + 8) + 36) + 9) + 40) rfl rfl dX10_init_119 rfl w.2 (fun h7 w => ?_)
  refine r_putF C D fcX10 (f := 9) (by decide) rfl rfl rfl rfl (ft_P _ _) k320 dX10_init_122 (w.mono fun h8 w => ?_)
  refine r_aload_n C dX10_init_125 rfl 0 rfl ?_
  refine r_new (fs := [aJ 0, aJ 0]) C fcX0 rfl df_X0 k309 k171 k8 w.1.1 w.1.2 dX10_init_126 ?_
  have w := w.2 _ rfl
  generalize h8 ++ [.inr (0, [aJ 0, aJ 0])] = h9 at w ⊢
  refine r_dup C dX10_init_129 rfl ?_
  refine r_ciV (rm' := rmX0_init) C mX0_init vX0_init (host := "NestingPlanner") (Or.inr nk310) [] [aP (some h8.length), aP (some l0)] rfl rfl (Nat.le_of_ble_eq_true rfl) (by decide) w.1 (((((k + 1) + 2) + 1) + 3) + 1) (((((n + 8) + 36) + 9) + 40) + 2) rfl rfl dX10_init_130 rfl w.2 (fun h11 w => ?_)
  refine r_putF C D fcX10 (f := 10) (by decide) rfl rfl rfl rfl (ft_P _ _) k321 dX10_init_133 (w.mono fun h12 w => ?_)
  refine r_aload_n C dX10_init_136 rfl 0 rfl ?_
  refine r_bipush (v := 8) C dX10_init_137 rfl ?_
  refine r_newaI 0 .int rfl 0 rfl ra_int rfl (N' := 8) C k67 (by decide) rfl (by decide) w.1.1 w.1.2 dX10_init_139 ?_
  have w := w.2 _ rfl
  generalize h12 ++ [.inl (0, List.replicate 8 0)] = h13 at w ⊢
  refine r_putF C D fcX10 (f := 11) (by decide) rfl rfl rfl rfl (ft_A _ _) k322 dX10_init_141 (w.mono fun h14 w => ?_)
  exact r_vret C D rfl w.1.1 w.1.2 dX10_init_144 w.2
def PX10_init_56 (E : EV) (post : Option AV → AH → Prop) (k n : Nat) (h : AH) (l0 : Nat) (l1 : Option Nat) : Prop :=
  (k + 1 ≤ 350 ∧ n + 10 ≤ 6000) ∧ (∀ h1, h1 = h ++ [.inr (4, [aP none, aP none, aP none, aI 0, aI 0, aI 0, aI 0, aI 0, aI 0, aI 0])] → ((k + 1) + 231 ≤ 350 ∧ (n + 10) + 3422 ≤ 6000) ∧ CS (sX4_init E) [aP (some h.length)] h1 (kV fun h3 => wr h3 (some l0) 10 4 (aP (some h.length)) fun h4 => (((k + 1) + 231) + 1 ≤ 350 ∧ ((n + 10) + 3422) + 9 ≤ 6000) ∧ (∀ h5, h5 = h4 ++ [.inr (8, [aP none, aP none, aP none, aP none, aP none, aI 0, aI 0, aI 0, aI 0])] → ((((k + 1) + 231) + 1) + 4 ≤ 350 ∧ (((n + 10) + 3422) + 9) + 28 ≤ 6000) ∧ CS (sX8_init E) [aP (some h4.length), aP l1] h5 (kV fun h7 => wr h7 (some l0) 10 5 (aP (some h4.length)) fun h8 => (((((k + 1) + 231) + 1) + 4) + 1 ≤ 350 ∧ ((((n + 10) + 3422) + 9) + 28) + 9 ≤ 6000) ∧ (∀ h9, h9 = h8 ++ [.inr (8, [aP none, aP none, aP none, aP none, aP none, aI 0, aI 0, aI 0, aI 0])] → ((((((k + 1) + 231) + 1) + 4) + 1) + 4 ≤ 350 ∧ (((((n + 10) + 3422) + 9) + 28) + 9) + 28 ≤ 6000) ∧ CS (sX8_init E) [aP (some h8.length), aP l1] h9 (kV fun h11 => wr h11 (some l0) 10 6 (aP (some h8.length)) fun h12 => (((((((k + 1) + 231) + 1) + 4) + 1) + 4) + 1 ≤ 350 ∧ ((((((n + 10) + 3422) + 9) + 28) + 9) + 28) + 2 ≤ 6000) ∧ (∀ h13, h13 = h12 ++ [.inr (1, [aP none, aI 0])] → ((((((((k + 1) + 231) + 1) + 4) + 1) + 4) + 1) + 31 ≤ 350 ∧ (((((((n + 10) + 3422) + 9) + 28) + 9) + 28) + 2) + 228 ≤ 6000) ∧ CS (sX1_init E) [aP (some h12.length), aP l1] h13 (kV fun h15 => wr h15 (some l0) 10 7 (aP (some h12.length)) fun h16 => PX10_init_103 E post ((((((((k + 1) + 231) + 1) + 4) + 1) + 4) + 1) + 31) ((((((((n + 10) + 3422) + 9) + 28) + 9) + 28) + 2) + 228) h16 l0))))))))
theorem bX10_init_56 {E : EV} {X : AX} {post : Option AV → AH → Prop} (C : Cb E X cX10_init RX10 2 rmX10_init) (D : Cr E X none rmX10_init "<init>" post) {k n : Nat} {h : AH} {l0 : Nat} {l1 : Option Nat} (w : PX10_init_56 E post k n h l0 l1) : Go E X 2 k n 56 [(0, aP (some l0)), (1, aP l1)] [] h := by
  unfold PX10_init_56 at w
  refine r_aload_n C dX10_init_56 rfl 0 rfl ?_
  refine r_new (fs := [aP none, aP none, aP none, aI 0, aI 0, aI 0, aI 0, aI 0, aI 0, aI 0]) C fcX4 rfl df_X4 k201 k202 k9 w.1.1 w.1.2 dX10_init_57 ?_
  have w := w.2 _ rfl
  generalize h ++ [.inr (4, [aP none, aP none, aP none, aI 0, aI 0, aI 0, aI 0, aI 0, aI 0, aI 0])] = h1 at w ⊢
  refine r_dup C dX10_init_60 rfl ?_
  refine r_ciV (rm' := rmX4_init) C mX4_init vX4_init (host := "") (Or.inl k203) [] [aP (some h.length), aP (some l0)] rfl rfl (Nat.le_of_ble_eq_true rfl) (by decide) w.1 ((k + 1) + 231) ((n + 10) + 3422) rfl rfl dX10_init_61 rfl w.2 (fun h3 w => ?_)
  refine r_putF C D fcX10 (f := 4) (by decide) rfl rfl rfl rfl (ft_P _ _) k315 dX10_init_64 (w.mono fun h4 w => ?_)
  refine r_aload_n C dX10_init_67 rfl 0 rfl ?_
  refine r_new (fs := [aP none, aP none, aP none, aP none, aP none, aI 0, aI 0, aI 0, aI 0]) C fcX8 rfl df_X8 k245 k246 k10 w.1.1 w.1.2 dX10_init_68 ?_
  have w := w.2 _ rfl
  generalize h4 ++ [.inr (8, [aP none, aP none, aP none, aP none, aP none, aI 0, aI 0, aI 0, aI 0])] = h5 at w ⊢
  refine r_dup C dX10_init_71 rfl ?_
  refine r_aload_n C dX10_init_72 rfl 1 rfl ?_
  refine r_ciV (rm' := rmX8_init) C mX8_init vX8_init (host := "") (Or.inl k247) [aP l1] [aP (some h4.length), aP (some l0)] rfl rfl (Nat.le_of_ble_eq_true rfl) (by decide) w.1 ((((k + 1) + 231) + 1) + 4) ((((n + 10) + 3422) + 9) + 28) rfl rfl dX10_init_73 rfl w.2 (fun h7 w => ?_)
  refine r_putF C D fcX10 (f := 5) (by decide) rfl rfl rfl rfl (ft_P _ _) k316 dX10_init_76 (w.mono fun h8 w => ?_)
  refine r_aload_n C dX10_init_79 rfl 0 rfl ?_
  refine r_new (fs := [aP none, aP none, aP none, aP none, aP none, aI 0, aI 0, aI 0, aI 0]) C fcX8 rfl df_X8 k245 k246 k10 w.1.1 w.1.2 dX10_init_80 ?_
  have w := w.2 _ rfl
  generalize h8 ++ [.inr (8, [aP none, aP none, aP none, aP none, aP none, aI 0, aI 0, aI 0, aI 0])] = h9 at w ⊢
  refine r_dup C dX10_init_83 rfl ?_
  refine r_aload_n C dX10_init_84 rfl 1 rfl ?_
  refine r_ciV (rm' := rmX8_init) C mX8_init vX8_init (host := "") (Or.inl k247) [aP l1] [aP (some h8.length), aP (some l0)] rfl rfl (Nat.le_of_ble_eq_true rfl) (by decide) w.1 ((((((k + 1) + 231) + 1) + 4) + 1) + 4) ((((((n + 10) + 3422) + 9) + 28) + 9) + 28) rfl rfl dX10_init_85 rfl w.2 (fun h11 w => ?_)
  refine r_putF C D fcX10 (f := 6) (by decide) rfl rfl rfl rfl (ft_P _ _) k317 dX10_init_88 (w.mono fun h12 w => ?_)
  refine r_aload_n C dX10_init_91 rfl 0 rfl ?_
  refine r_new (fs := [aP none, aI 0]) C fcX1 rfl df_X1 k290 k291 k11 w.1.1 w.1.2 dX10_init_92 ?_
  have w := w.2 _ rfl
  generalize h12 ++ [.inr (1, [aP none, aI 0])] = h13 at w ⊢
  refine r_dup C dX10_init_95 rfl ?_
  refine r_aload_n C dX10_init_96 rfl 1 rfl ?_
  refine r_ciV (rm' := rmX1_init) C mX1_init vX1_init (host := "") (Or.inl k292) [aP l1] [aP (some h12.length), aP (some l0)] rfl rfl (Nat.le_of_ble_eq_true rfl) (by decide) w.1 ((((((((k + 1) + 231) + 1) + 4) + 1) + 4) + 1) + 31) ((((((((n + 10) + 3422) + 9) + 28) + 9) + 28) + 2) + 228) rfl rfl dX10_init_97 rfl w.2 (fun h15 w => ?_)
  refine r_putF C D fcX10 (f := 7) (by decide) rfl rfl rfl rfl (ft_P _ _) k318 dX10_init_100 (w.mono fun h16 w => ?_)
  exact r_sub [0] rfl (bX10_init_103 C D w)
def PX10_init_0 (E : EV) (post : Option AV → AH → Prop) (k n : Nat) (h : AH) (l0 : Nat) : Prop :=
  (k + 1 ≤ 350 ∧ n + 9 ≤ 6000) ∧ (∀ h1, h1 = h ++ [.inr (6, [aP none, aP none, aP none, aI 0, aI 0, aI 0, aI 0, aI 0, aI 0])] → ((k + 1) + 3 ≤ 350 ∧ (n + 9) + 40 ≤ 6000) ∧ CS (sX6_init E) [aP (some h.length)] h1 (kV fun h3 => (((k + 1) + 3) + 1 ≤ 350 ∧ ((n + 9) + 40) + 4 ≤ 6000) ∧ (∀ h5, h5 = h3 ++ [.inr (9, [aP none, aI 0, aI 0, aI 0])] → ((((k + 1) + 3) + 1) + 1 ≤ 350 ∧ (((n + 9) + 40) + 4) + 150 ≤ 6000) ∧ CS (sX9_init E) [aP (some h3.length)] h5 (kV fun h7 => wr h7 (some l0) 10 0 (aP (some h3.length)) fun h8 => (((((k + 1) + 3) + 1) + 1) + 1 ≤ 350 ∧ ((((n + 9) + 40) + 4) + 150) + 2 ≤ 6000) ∧ (∀ h9, h9 = h8 ++ [.inr (7, [aP none, aP none])] → ((((((k + 1) + 3) + 1) + 1) + 1) + 7 ≤ 350 ∧ (((((n + 9) + 40) + 4) + 150) + 2) + 94 ≤ 6000) ∧ CS (sX7_init E) [aP (some h8.length)] h9 (kV fun h11 => wr h11 (some l0) 10 1 (aP (some h8.length)) fun h12 => (((((((k + 1) + 3) + 1) + 1) + 1) + 7) + 1 ≤ 350 ∧ ((((((n + 9) + 40) + 4) + 150) + 2) + 94) + 4 ≤ 6000) ∧ (∀ h13, h13 = h12 ++ [.inr (2, [aP none, aP none, aP none, aI 0])] → ((((((((k + 1) + 3) + 1) + 1) + 1) + 7) + 1) + 3 ≤ 350 ∧ (((((((n + 9) + 40) + 4) + 150) + 2) + 94) + 4) + 24 ≤ 6000) ∧ CS (sX2_init E) [aP (some h12.length)] h13 (kV fun h15 => wr h15 (some l0) 10 2 (aP (some h12.length)) fun h16 => (((((((((k + 1) + 3) + 1) + 1) + 1) + 7) + 1) + 3) + 1 ≤ 350 ∧ ((((((((n + 9) + 40) + 4) + 150) + 2) + 94) + 4) + 24) + 4 ≤ 6000) ∧ (∀ h17, h17 = h16 ++ [.inr (3, [aP none, aP none, aP none, aP none])] → ((((((((((k + 1) + 3) + 1) + 1) + 1) + 7) + 1) + 3) + 1) + 10 ≤ 350 ∧ (((((((((n + 9) + 40) + 4) + 150) + 2) + 94) + 4) + 24) + 4) + 134 ≤ 6000) ∧ CS (sX3_init E) [aP (some h16.length)] h17 (kV fun h19 => wr h19 (some l0) 10 3 (aP (some h16.length)) fun h20 => PX10_init_56 E post ((((((((((k + 1) + 3) + 1) + 1) + 1) + 7) + 1) + 3) + 1) + 10) ((((((((((n + 9) + 40) + 4) + 150) + 2) + 94) + 4) + 24) + 4) + 134) h20 l0 (some h.length)))))))))))
theorem bX10_init_0 {E : EV} {X : AX} {post : Option AV → AH → Prop} (C : Cb E X cX10_init RX10 2 rmX10_init) (D : Cr E X none rmX10_init "<init>" post) {k n : Nat} {h : AH} {l0 : Nat} (w : PX10_init_0 E post k n h l0) : Go E X 2 k n 0 [(0, aP (some l0))] [] h := by
  unfold PX10_init_0 at w
  refine r_aload_n C dX10_init_0 rfl 0 rfl ?_
  refine r_objInit C k19 k20 k21 (by decide) (by decide) (Nat.le_of_ble_eq_true rfl) dX10_init_1 ?_
  refine r_new (fs := [aP none, aP none, aP none, aI 0, aI 0, aI 0, aI 0, aI 0, aI 0]) C fcX6 rfl df_X6 k22 k23 k2 w.1.1 w.1.2 dX10_init_4 ?_
  have w := w.2 _ rfl
  generalize h ++ [.inr (6, [aP none, aP none, aP none, aI 0, aI 0, aI 0, aI 0, aI 0, aI 0])] = h1 at w ⊢
  refine r_dup C dX10_init_7 rfl ?_
  refine r_ciV (rm' := rmX6_init) C mX6_init vX6_init (host := "NestingPlanner") (Or.inr nk24) [] [aP (some h.length)] rfl rfl (Nat.le_of_ble_eq_true rfl) (by decide) w.1 ((k + 1) + 3) ((n + 9) + 40) rfl rfl dX10_init_8 rfl w.2 (fun h3 w => ?_)
  refine r_astore_n C dX10_init_11 rfl (by decide) rfl ?_
  refine r_aload_n C dX10_init_12 rfl 1 rfl ?_
  refine r_new (fs := [aP none, aI 0, aI 0, aI 0]) C fcX9 rfl df_X9 k68 k69 k3 w.1.1 w.1.2 dX10_init_13 ?_
  have w := w.2 _ rfl
  generalize h3 ++ [.inr (9, [aP none, aI 0, aI 0, aI 0])] = h5 at w ⊢
  refine r_dup C dX10_init_16 rfl ?_
  refine r_ciV (rm' := rmX9_init) C mX9_init vX9_init (host := "NestingPlanner") (Or.inr nk70) [] [aP (some h3.length), aP (some l0)] rfl rfl (Nat.le_of_ble_eq_true rfl) (by decide) w.1 ((((k + 1) + 3) + 1) + 1) ((((n + 9) + 40) + 4) + 150) rfl rfl dX10_init_17 rfl w.2 (fun h7 w => ?_)
  refine r_putF C D fcX10 (f := 0) (by decide) rfl rfl rfl rfl (ft_P _ _) k311 dX10_init_20 (w.mono fun h8 w => ?_)
  refine r_aload_n C dX10_init_23 rfl 1 rfl ?_
  refine r_new (fs := [aP none, aP none]) C fcX7 rfl df_X7 k93 k94 k4 w.1.1 w.1.2 dX10_init_24 ?_
  have w := w.2 _ rfl
  generalize h8 ++ [.inr (7, [aP none, aP none])] = h9 at w ⊢
  refine r_dup C dX10_init_27 rfl ?_
  refine r_ciV (rm' := rmX7_init) C mX7_init vX7_init (host := "NestingPlanner") (Or.inr nk95) [] [aP (some h8.length), aP (some l0)] rfl rfl (Nat.le_of_ble_eq_true rfl) (by decide) w.1 ((((((k + 1) + 3) + 1) + 1) + 1) + 7) ((((((n + 9) + 40) + 4) + 150) + 2) + 94) rfl rfl dX10_init_28 rfl w.2 (fun h11 w => ?_)
  refine r_putF C D fcX10 (f := 1) (by decide) rfl rfl rfl rfl (ft_P _ _) k312 dX10_init_31 (w.mono fun h12 w => ?_)
  refine r_aload_n C dX10_init_34 rfl 1 rfl ?_
  refine r_new (fs := [aP none, aP none, aP none, aI 0]) C fcX2 rfl df_X2 k142 k143 k6 w.1.1 w.1.2 dX10_init_35 ?_
  have w := w.2 _ rfl
  generalize h12 ++ [.inr (2, [aP none, aP none, aP none, aI 0])] = h13 at w ⊢
  refine r_dup C dX10_init_38 rfl ?_
  refine r_ciV (rm' := rmX2_init) C mX2_init vX2_init (host := "NestingPlanner") (Or.inr nk144) [] [aP (some h12.length), aP (some l0)] rfl rfl (Nat.le_of_ble_eq_true rfl) (by decide) w.1 ((((((((k + 1) + 3) + 1) + 1) + 1) + 7) + 1) + 3) ((((((((n + 9) + 40) + 4) + 150) + 2) + 94) + 4) + 24) rfl rfl dX10_init_39 rfl w.2 (fun h15 w => ?_)
  refine r_putF C D fcX10 (f := 2) (by decide) rfl rfl rfl rfl (ft_P _ _) k313 dX10_init_42 (w.mono fun h16 w => ?_)
  refine r_aload_n C dX10_init_45 rfl 1 rfl ?_
  refine r_new (fs := [aP none, aP none, aP none, aP none]) C fcX3 rfl df_X3 k162 k163 k7 w.1.1 w.1.2 dX10_init_46 ?_
  have w := w.2 _ rfl
  generalize h16 ++ [.inr (3, [aP none, aP none, aP none, aP none])] = h17 at w ⊢
  refine r_dup C dX10_init_49 rfl ?_
  refine r_ciV (rm' := rmX3_init) C mX3_init vX3_init (host := "NestingPlanner") (Or.inr nk164) [] [aP (some h16.length), aP (some l0)] rfl rfl (Nat.le_of_ble_eq_true rfl) (by decide) w.1 ((((((((((k + 1) + 3) + 1) + 1) + 1) + 7) + 1) + 3) + 1) + 10) ((((((((((n + 9) + 40) + 4) + 150) + 2) + 94) + 4) + 24) + 4) + 134) rfl rfl dX10_init_50 rfl w.2 (fun h19 w => ?_)
  refine r_putF C D fcX10 (f := 3) (by decide) rfl rfl rfl rfl (ft_P _ _) k314 dX10_init_53 (w.mono fun h20 w => ?_)
  exact r_sub [1, 0] rfl (bX10_init_56 C D w)
theorem eX10_init {E : EV} {post : Option AV → AH → Prop} {h : AH} {l0 : Nat} (w : PX10_init_0 E post 0 0 h l0) : sX10_init E [aP (some l0)] h post := Spec.of RX10 rfl rfl (Nat.le_of_ble_eq_true rfl) fun X C D => bX10_init_0 C D w
theorem dX10_itemContains_0 : decode cX10_itemContains 0 = .ok (.aload_n 0, 1) := by decide +kernel
theorem dX10_itemContains_1 : decode cX10_itemContains 1 = .ok (.getfield 52, 3) := by decide +kernel
theorem dX10_itemContains_4 : decode cX10_itemContains 4 = .ok (.iload_n 1, 1) := by decide +kernel
theorem dX10_itemContains_5 : decode cX10_itemContains 5 = .ok (.invokevirtual 261, 3) := by decide +kernel
theorem dX10_itemContains_8 : decode cX10_itemContains 8 = .ok (.astore 4, 2) := by decide +kernel
theorem dX10_itemContains_10 : decode cX10_itemContains 10 = .ok (.iconst 0, 1) := by decide +kernel
theorem dX10_itemContains_11 : decode cX10_itemContains 11 = .ok (.istore 5, 2) := by decide +kernel
theorem dX10_itemContains_13 : decode cX10_itemContains 13 = .ok (.iload 5, 2) := by decide +kernel
theorem dX10_itemContains_15 : decode cX10_itemContains 15 = .ok (.aload 4, 2) := by decide +kernel
theorem dX10_itemContains_17 : decode cX10_itemContains 17 = .ok (.getfield 136, 3) := by decide +kernel
theorem dX10_itemContains_20 : decode cX10_itemContains 20 = .ok (.if_icmp .ge 53, 3) := by decide +kernel
theorem dX10_itemContains_23 : decode cX10_itemContains 23 = .ok (.aload 4, 2) := by decide +kernel
theorem dX10_itemContains_25 : decode cX10_itemContains 25 = .ok (.iload 5, 2) := by decide +kernel
theorem dX10_itemContains_27 : decode cX10_itemContains 27 = .ok (.iconst 0, 1) := by decide +kernel
theorem dX10_itemContains_28 : decode cX10_itemContains 28 = .ok (.aload_n 0, 1) := by decide +kernel
theorem dX10_itemContains_29 : decode cX10_itemContains 29 = .ok (.getfield 69, 3) := by decide +kernel
theorem dX10_itemContains_32 : decode cX10_itemContains 32 = .ok (.invokevirtual 143, 3) := by decide +kernel
theorem dX10_itemContains_35 : decode cX10_itemContains 35 = .ok (.aload_n 0, 1) := by decide +kernel
theorem dX10_itemContains_36 : decode cX10_itemContains 36 = .ok (.getfield 69, 3) := by decide +kernel
theorem dX10_itemContains_39 : decode cX10_itemContains 39 = .ok (.iload_n 2, 1) := by decide +kernel
theorem dX10_itemContains_40 : decode cX10_itemContains 40 = .ok (.aload_n 0, 1) := by decide +kernel
theorem dX10_itemContains_41 : decode cX10_itemContains 41 = .ok (.getfield 52, 3) := by decide +kernel
theorem dX10_itemContains_44 : decode cX10_itemContains 44 = .ok (.iload_n 1, 1) := by decide +kernel
theorem dX10_itemContains_45 : decode cX10_itemContains 45 = .ok (.invokevirtual 274, 3) := by decide +kernel
theorem dX10_itemContains_48 : decode cX10_itemContains 48 = .ok (.isub, 1) := by decide +kernel
theorem dX10_itemContains_49 : decode cX10_itemContains 49 = .ok (.iload_n 3, 1) := by decide +kernel
theorem dX10_itemContains_50 : decode cX10_itemContains 50 = .ok (.aload_n 0, 1) := by decide +kernel
theorem dX10_itemContains_51 : decode cX10_itemContains 51 = .ok (.getfield 52, 3) := by decide +kernel
theorem dX10_itemContains_54 : decode cX10_itemContains 54 = .ok (.iload_n 1, 1) := by decide +kernel
theorem dX10_itemContains_55 : decode cX10_itemContains 55 = .ok (.invokevirtual 275, 3) := by decide +kernel
theorem dX10_itemContains_58 : decode cX10_itemContains 58 = .ok (.isub, 1) := by decide +kernel
theorem dX10_itemContains_59 : decode cX10_itemContains 59 = .ok (.invokevirtual 357, 3) := by decide +kernel
theorem dX10_itemContains_62 : decode cX10_itemContains 62 = .ok (.ifCond .eq 5, 3) := by decide +kernel
theorem dX10_itemContains_65 : decode cX10_itemContains 65 = .ok (.iconst 1, 1) := by decide +kernel
theorem dX10_itemContains_66 : decode cX10_itemContains 66 = .ok (.ireturn, 1) := by decide +kernel
theorem dX10_itemContains_67 : decode cX10_itemContains 67 = .ok (.iinc 5 1, 3) := by decide +kernel
theorem dX10_itemContains_70 : decode cX10_itemContains 70 = .ok (.goto (-57), 3) := by decide +kernel
theorem dX10_itemContains_73 : decode cX10_itemContains 73 = .ok (.iconst 0, 1) := by decide +kernel
theorem dX10_itemContains_74 : decode cX10_itemContains 74 = .ok (.ireturn, 1) := by decide +kernel
abbrev rmX10_itemContains : Room := { frames := 3, cells := 0, slots := 0, locals := 120 }
abbrev sX10_itemContains (E : EV) : List AV → AH → (Option AV → AH → Prop) → Prop := Spec E yX10_itemContains cX10_itemContains 6 (some .boolean) rmX10_itemContains
theorem mX10_itemContains : Mt yX10_itemContains cX10_itemContains 6 (some .boolean) 3 := ⟨k893, k1, by decide +kernel⟩
theorem vX10_itemContains : MtV yX10_itemContains 10 := ⟨k892, kp24, by decide, (RX10, TX10, 12), rfl, rfl⟩
def PX10_itemContains_13 (E : EV) (post : Option AV → AH → Prop) (J13 : AH → Option Nat → Int32 → Int32 → Int32 → Option Nat → Int32 → Prop) (h : AH) (l0 : Option Nat) (l1 : Int32) (l2 : Int32) (l3 : Int32) (l4 : Option Nat) (l5 : Int32) : Prop :=
  rdI h l4 6 3 fun x1 => (x1 ≤ l5 → post (some (aI (0 : Int32))) h) ∧ (¬ x1 ≤ l5 → rdP h l0 10 8 fun x2 => CV (sX6_copyPiece E) l4 6 [aI l5, aI (0 : Int32), aP x2] h (kV fun h4 => rdP h4 l0 10 8 fun x5 => rdP h4 l0 10 5 fun x6 => CV (sX8_x E) x6 8 [aI l1] h4 (kI fun x7 h8 => rdP h8 l0 10 5 fun x9 => CV (sX8_y E) x9 8 [aI l1] h8 (kI fun x10 h11 => CV (sX5_locate E) x5 5 [aI (l2 - x7), aI (l3 - x10)] h11 (kI fun x12 h13 => (x12 = 0 → J13 h13 l0 l1 l2 l3 l4 (l5 + (1 : Int32))) ∧ (¬ x12 = 0 → post (some (aI (1 : Int32))) h13))))))
theorem bX10_itemContains_13 {E : EV} {X : AX} {post : Option AV → AH → Prop} (C : Cb E X cX10_itemContains RX10 6 rmX10_itemContains) (D : Cr E X (some .boolean) rmX10_itemContains "itemContains" post) {J13 : AH → Option Nat → Int32 → Int32 → Int32 → Option Nat → Int32 → Prop} (g13 : ∀ (h : AH) (l0 : Option Nat) (l1 : Int32) (l2 : Int32) (l3 : Int32) (l4 : Option Nat) (l5 : Int32), J13 h l0 l1 l2 l3 l4 l5 → Go E X 6 0 0 13 [(0, aP l0), (1, aI l1), (2, aI l2), (3, aI l3), (4, aP l4), (5, aI l5)] [] h) {h : AH} {l0 : Option Nat} {l1 : Int32} {l2 : Int32} {l3 : Int32} {l4 : Option Nat} {l5 : Int32} (w : PX10_itemContains_13 E post J13 h l0 l1 l2 l3 l4 l5) : Go E X 6 0 0 13 [(0, aP l0), (1, aI l1), (2, aI l2), (3, aI l3), (4, aP l4), (5, aI l5)] [] h := by
  unfold PX10_itemContains_13 at w
  refine r_iload C dX10_itemContains_13 5 rfl ?_
  refine r_aload C dX10_itemContains_15 4 rfl ?_
  refine r_getI C fcX6 (f := 3) (by decide) rfl k34 dX10_itemContains_17 (w.mono fun x1 w => ?_)
  refine r_icmp_ge C dX10_itemContains_20 (tgt := 73) rfl (fun hc => ?_) (fun hc => ?_)
  · have w := w.1 hc
    refine r_iconst (v := 0) C dX10_itemContains_73 rfl ?_
    exact r_zret C D rfl (Or.inl rfl) (Nat.zero_le _) (Nat.zero_le _) dX10_itemContains_74 w
  · have w := w.2 hc
    refine r_aload C dX10_itemContains_23 4 rfl ?_
    refine r_iload C dX10_itemContains_25 5 rfl ?_
    refine r_iconst (v := 0) C dX10_itemContains_27 rfl ?_
    refine r_aload_n C dX10_itemContains_28 rfl 0 rfl ?_
    refine r_getP C fcX10 (f := 8) (by decide) rfl k319 dX10_itemContains_29 (w.mono fun x2 w => ?_)
    refine r_cvV (rm' := rmX6_copyPiece) C mX6_copyPiece vX6_copyPiece k556 [aI l5, aI (0 : Int32), aP x2] [] rfl rfl (Nat.le_of_ble_eq_true rfl) (by decide) ⟨Nat.zero_le _, Nat.zero_le _⟩ 0 0 rfl rfl dX10_itemContains_32 w (fun h4 w => ?_)
    refine r_aload_n C dX10_itemContains_35 rfl 0 rfl ?_
    refine r_getP C fcX10 (f := 8) (by decide) rfl k319 dX10_itemContains_36 (w.mono fun x5 w => ?_)
    refine r_iload_n C dX10_itemContains_39 rfl 2 rfl ?_
    refine r_aload_n C dX10_itemContains_40 rfl 0 rfl ?_
    refine r_getP C fcX10 (f := 5) (by decide) rfl k316 dX10_itemContains_41 (w.mono fun x6 w => ?_)
    refine r_iload_n C dX10_itemContains_44 rfl 1 rfl ?_
    refine r_cvI (rm' := rmX8_x) C mX8_x vX8_x k743 [aI l1] [aI l2, aP x5] rfl rfl (Nat.le_of_ble_eq_true rfl) (by decide) ⟨Nat.zero_le _, Nat.zero_le _⟩ 0 0 rfl rfl dX10_itemContains_45 w (fun x7 h8 w => ?_)
    refine r_isub C dX10_itemContains_48 ?_
    refine r_iload_n C dX10_itemContains_49 rfl 3 rfl ?_
    refine r_aload_n C dX10_itemContains_50 rfl 0 rfl ?_
    refine r_getP C fcX10 (f := 5) (by decide) rfl k316 dX10_itemContains_51 (w.mono fun x9 w => ?_)
    refine r_iload_n C dX10_itemContains_54 rfl 1 rfl ?_
    refine r_cvI (rm' := rmX8_y) C mX8_y vX8_y k744 [aI l1] [aI l3, aI (l2 - x7), aP x5] rfl rfl (Nat.le_of_ble_eq_true rfl) (by decide) ⟨Nat.zero_le _, Nat.zero_le _⟩ 0 0 rfl rfl dX10_itemContains_55 w (fun x10 h11 w => ?_)
    refine r_isub C dX10_itemContains_58 ?_
    refine r_cvI (rm' := rmX5_locate) C mX5_locate vX5_locate k894 [aI (l2 - x7), aI (l3 - x10)] [] rfl rfl (Nat.le_of_ble_eq_true rfl) (by decide) ⟨Nat.zero_le _, Nat.zero_le _⟩ 0 0 rfl rfl dX10_itemContains_59 w (fun x12 h13 w => ?_)
    refine r_if_eq C dX10_itemContains_62 (tgt := 67) rfl (fun hc => ?_) (fun hc => ?_)
    · have w := w.1 hc
      refine r_iinc C dX10_itemContains_67 5 rfl (v := 1) rfl (by decide) rfl ?_
      refine r_goto C dX10_itemContains_70 (tgt := 13) rfl ?_
      exact r_sub [1, 2, 3, 4, 5, 0] rfl (g13 h13 l0 l1 l2 l3 l4 (l5 + (1 : Int32)) w)
    · have w := w.2 hc
      refine r_iconst (v := 1) C dX10_itemContains_65 rfl ?_
      exact r_zret C D rfl (Or.inr rfl) (Nat.zero_le _) (Nat.zero_le _) dX10_itemContains_66 w
theorem lpX10_itemContains_13 {E : EV} {X : AX} {post : Option AV → AH → Prop} (C : Cb E X cX10_itemContains RX10 6 rmX10_itemContains) (D : Cr E X (some .boolean) rmX10_itemContains "itemContains" post) (I : Nat → AH → Option Nat → Int32 → Int32 → Int32 → Option Nat → Int32 → Prop) (step : ∀ (z : Nat) (h : AH) (l0 : Option Nat) (l1 : Int32) (l2 : Int32) (l3 : Int32) (l4 : Option Nat) (l5 : Int32), I z h l0 l1 l2 l3 l4 l5 → PX10_itemContains_13 E post (fun h l0 l1 l2 l3 l4 l5 => ∃ z', z' < z ∧ I z' h l0 l1 l2 l3 l4 l5) h l0 l1 l2 l3 l4 l5) : ∀ (z : Nat) (h : AH) (l0 : Option Nat) (l1 : Int32) (l2 : Int32) (l3 : Int32) (l4 : Option Nat) (l5 : Int32), I z h l0 l1 l2 l3 l4 l5 → Go E X 6 0 0 13 [(0, aP l0), (1, aI l1), (2, aI l2), (3, aI l3), (4, aP l4), (5, aI l5)] [] h := by
  intro z
  induction z using Nat.strongRecOn with
  | _ z ih =>
    intro h l0 l1 l2 l3 l4 l5 hI
    exact bX10_itemContains_13 C D (fun h l0 l1 l2 l3 l4 l5 hJ => by obtain ⟨z', hz, hi⟩ := hJ; exact ih z' hz h l0 l1 l2 l3 l4 l5 hi) (step z h l0 l1 l2 l3 l4 l5 hI)
def PX10_itemContains_0 (E : EV) (post : Option AV → AH → Prop) (J13 : AH → Option Nat → Int32 → Int32 → Int32 → Option Nat → Int32 → Prop) (h : AH) (l0 : Option Nat) (l1 : Int32) (l2 : Int32) (l3 : Int32) : Prop :=
  rdP h l0 10 5 fun x1 => CV (sX8_shape E) x1 8 [aI l1] h (kP fun x2 h3 => J13 h3 l0 l1 l2 l3 x2 (0 : Int32))
theorem bX10_itemContains_0 {E : EV} {X : AX} {post : Option AV → AH → Prop} (C : Cb E X cX10_itemContains RX10 6 rmX10_itemContains) (D : Cr E X (some .boolean) rmX10_itemContains "itemContains" post) {J13 : AH → Option Nat → Int32 → Int32 → Int32 → Option Nat → Int32 → Prop} (g13 : ∀ (h : AH) (l0 : Option Nat) (l1 : Int32) (l2 : Int32) (l3 : Int32) (l4 : Option Nat) (l5 : Int32), J13 h l0 l1 l2 l3 l4 l5 → Go E X 6 0 0 13 [(0, aP l0), (1, aI l1), (2, aI l2), (3, aI l3), (4, aP l4), (5, aI l5)] [] h) {h : AH} {l0 : Option Nat} {l1 : Int32} {l2 : Int32} {l3 : Int32} (w : PX10_itemContains_0 E post J13 h l0 l1 l2 l3) : Go E X 6 0 0 0 [(0, aP l0), (1, aI l1), (2, aI l2), (3, aI l3)] [] h := by
  unfold PX10_itemContains_0 at w
  refine r_aload_n C dX10_itemContains_0 rfl 0 rfl ?_
  refine r_getP C fcX10 (f := 5) (by decide) rfl k316 dX10_itemContains_1 (w.mono fun x1 w => ?_)
  refine r_iload_n C dX10_itemContains_4 rfl 1 rfl ?_
  refine r_cvP (rm' := rmX8_shape) C mX8_shape vX8_shape k725 [aI l1] [] rfl rfl (Nat.le_of_ble_eq_true rfl) (by decide) ⟨Nat.zero_le _, Nat.zero_le _⟩ 0 0 rfl rfl dX10_itemContains_5 w (fun x2 h3 w => ?_)
  refine r_astore C dX10_itemContains_8 (by decide) rfl ?_
  refine r_iconst (v := 0) C dX10_itemContains_10 rfl ?_
  refine r_istore C dX10_itemContains_11 (by decide) rfl ?_
  exact r_sub [2, 3, 4, 5, 1, 0] rfl (g13 h3 l0 l1 l2 l3 x2 (0 : Int32) w)
theorem eX10_itemContains {E : EV} {post : Option AV → AH → Prop} {h : AH} {l0 : Option Nat} {l1 : Int32} {l2 : Int32} {l3 : Int32} {J13 : AH → Option Nat → Int32 → Int32 → Int32 → Option Nat → Int32 → Prop} (g13 : ∀ X : AX, Cb E X cX10_itemContains RX10 6 rmX10_itemContains → Cr E X (some .boolean) rmX10_itemContains "itemContains" post → ∀ (h : AH) (l0 : Option Nat) (l1 : Int32) (l2 : Int32) (l3 : Int32) (l4 : Option Nat) (l5 : Int32), J13 h l0 l1 l2 l3 l4 l5 → Go E X 6 0 0 13 [(0, aP l0), (1, aI l1), (2, aI l2), (3, aI l3), (4, aP l4), (5, aI l5)] [] h) (w : PX10_itemContains_0 E post J13 h l0 l1 l2 l3) : sX10_itemContains E [aP l0, aI l1, aI l2, aI l3] h post := Spec.of RX10 rfl rfl (Nat.le_of_ble_eq_true rfl) fun X C D => bX10_itemContains_0 C D (g13 X C D) w
