theorem dX11_here_0 : decode cX11_here 0 = .ok (.aload_n 0, 1) := by decide +kernel
theorem dX11_here_1 : decode cX11_here 1 = .ok (.getfield 150, 3) := by decide +kernel
theorem dX11_here_4 : decode cX11_here 4 = .ok (.aload_n 0, 1) := by decide +kernel
theorem dX11_here_5 : decode cX11_here 5 = .ok (.getfield 146, 3) := by decide +kernel
theorem dX11_here_8 : decode cX11_here 8 = .ok (.if_icmp .ge 19, 3) := by decide +kernel
theorem dX11_here_11 : decode cX11_here 11 = .ok (.aload_n 0, 1) := by decide +kernel
theorem dX11_here_12 : decode cX11_here 12 = .ok (.getfield 16, 3) := by decide +kernel
theorem dX11_here_15 : decode cX11_here 15 = .ok (.aload_n 0, 1) := by decide +kernel
theorem dX11_here_16 : decode cX11_here 16 = .ok (.getfield 150, 3) := by decide +kernel
theorem dX11_here_19 : decode cX11_here 19 = .ok (.baload, 1) := by decide +kernel
theorem dX11_here_20 : decode cX11_here 20 = .ok (.sipush 255, 3) := by decide +kernel
theorem dX11_here_23 : decode cX11_here 23 = .ok (.iand, 1) := by decide +kernel
theorem dX11_here_24 : decode cX11_here 24 = .ok (.goto 4, 3) := by decide +kernel
theorem dX11_here_27 : decode cX11_here 27 = .ok (.iconst (-1), 1) := by decide +kernel
theorem dX11_here_28 : decode cX11_here 28 = .ok (.ireturn, 1) := by decide +kernel
abbrev rmX11_here : Room := { frames := 0, cells := 0, slots := 0, locals := 0 }
abbrev sX11_here (E : EV) : List AV → AH → (Option AV → AH → Prop) → Prop := Spec E yX11_here cX11_here 1 (some .int) rmX11_here
theorem mX11_here : Mt yX11_here cX11_here 1 (some .int) 0 := ⟨k1063, k12, by decide +kernel⟩
theorem vX11_here : MtV yX11_here 11 := ⟨k1062, kp31, by decide, (RX11, TX11, 26), rfl, rfl⟩
def PX11_here_0 (E : EV) (post : Option AV → AH → Prop) (h : AH) (l0 : Option Nat) : Prop :=
  rdI h l0 11 13 fun x1 => rdI h l0 11 4 fun x2 => (x2 ≤ x1 → post (some (aI (-1 : Int32))) h) ∧ (¬ x2 ≤ x1 → rdP h l0 11 3 fun x3 => rdI h l0 11 13 fun x4 => aldI h x3 1 x4 fun x5 => post (some (aI (x5 &&& (255 : Int32)))) h)
theorem bX11_here_0 {E : EV} {X : AX} {post : Option AV → AH → Prop} (C : Cb E X cX11_here RX11 1 rmX11_here) (D : Cr E X (some .int) rmX11_here "here" post) {h : AH} {l0 : Option Nat} (w : PX11_here_0 E post h l0) : Go E X 1 0 0 0 [(0, aP l0)] [] h := by
  unfold PX11_here_0 at w
  refine r_aload_n C dX11_here_0 rfl 0 rfl ?_
  refine r_getI C fcX11 (f := 13) (by decide) rfl k956 dX11_here_1 (w.mono fun x1 w => ?_)
  refine r_aload_n C dX11_here_4 rfl 0 rfl ?_
  refine r_getI C fcX11 (f := 4) (by decide) rfl k947 dX11_here_5 (w.mono fun x2 w => ?_)
  refine r_icmp_ge C dX11_here_8 (tgt := 27) rfl (fun hc => ?_) (fun hc => ?_)
  · have w := w.1 hc
    refine r_iconst (v := -1) C dX11_here_27 rfl ?_
    exact r_iret C D rfl (Nat.zero_le _) (Nat.zero_le _) dX11_here_28 w
  · have w := w.2 hc
    refine r_aload_n C dX11_here_11 rfl 0 rfl ?_
    refine r_getP C fcX11 (f := 3) (by decide) rfl k946 dX11_here_12 (w.mono fun x3 w => ?_)
    refine r_aload_n C dX11_here_15 rfl 0 rfl ?_
    refine r_getI C fcX11 (f := 13) (by decide) rfl k956 dX11_here_16 (w.mono fun x4 w => ?_)
    refine r_bald C dX11_here_19 (w.mono fun x5 w => ?_)
    refine r_sipush (v := 255) C dX11_here_20 rfl ?_
    refine r_iand C dX11_here_23 ?_
    refine r_goto C dX11_here_24 (tgt := 28) rfl ?_
    exact r_iret C D rfl (Nat.zero_le _) (Nat.zero_le _) dX11_here_28 w
theorem eX11_here {E : EV} {post : Option AV → AH → Prop} {h : AH} {l0 : Option Nat} (w : PX11_here_0 E post h l0) : sX11_here E [aP l0] h post := Spec.of RX11 rfl rfl (Nat.le_of_ble_eq_true rfl) fun X C D => bX11_here_0 C D w
theorem dX11_skip_0 : decode cX11_skip 0 = .ok (.aload_n 0, 1) := by decide +kernel
theorem dX11_skip_1 : decode cX11_skip 1 = .ok (.getfield 157, 3) := by decide +kernel
theorem dX11_skip_4 : decode cX11_skip 4 = .ok (.ifCond .ne 25, 3) := by decide +kernel
theorem dX11_skip_7 : decode cX11_skip 7 = .ok (.aload_n 0, 1) := by decide +kernel
theorem dX11_skip_8 : decode cX11_skip 8 = .ok (.invokevirtual 153, 3) := by decide +kernel
theorem dX11_skip_11 : decode cX11_skip 11 = .ok (.bipush 32, 2) := by decide +kernel
theorem dX11_skip_13 : decode cX11_skip 13 = .ok (.if_icmp .ne 16, 3) := by decide +kernel
theorem dX11_skip_16 : decode cX11_skip 16 = .ok (.aload_n 0, 1) := by decide +kernel
theorem dX11_skip_17 : decode cX11_skip 17 = .ok (.dup, 1) := by decide +kernel
theorem dX11_skip_18 : decode cX11_skip 18 = .ok (.getfield 150, 3) := by decide +kernel
theorem dX11_skip_21 : decode cX11_skip 21 = .ok (.iconst 1, 1) := by decide +kernel
theorem dX11_skip_22 : decode cX11_skip 22 = .ok (.iadd, 1) := by decide +kernel
theorem dX11_skip_23 : decode cX11_skip 23 = .ok (.putfield 150, 3) := by decide +kernel
theorem dX11_skip_26 : decode cX11_skip 26 = .ok (.goto (-26), 3) := by decide +kernel
theorem dX11_skip_29 : decode cX11_skip 29 = .ok (.return_, 1) := by decide +kernel
abbrev rmX11_skip : Room := { frames := 1, cells := 0, slots := 0, locals := 40 }
abbrev sX11_skip (E : EV) : List AV → AH → (Option AV → AH → Prop) → Prop := Spec E yX11_skip cX11_skip 1 none rmX11_skip
theorem mX11_skip : Mt yX11_skip cX11_skip 1 none 0 := ⟨k1059, k12, by decide +kernel⟩
theorem vX11_skip : MtV yX11_skip 11 := ⟨k1058, kp30, by decide, (RX11, TX11, 26), rfl, rfl⟩
def PX11_skip_0 (E : EV) (post : Option AV → AH → Prop) (J0 : AH → Option Nat → Prop) (h : AH) (l0 : Option Nat) : Prop :=
  rdI h l0 11 14 fun x1 => (¬ x1 = 0 → post none h) ∧ (x1 = 0 → CV (sX11_here E) l0 11 [] h (kI fun x2 h3 => (¬ x2 = (32 : Int32) → post none h3) ∧ (x2 = (32 : Int32) → rdI h3 l0 11 13 fun x4 => wr h3 l0 11 13 (aI (x4 + (1 : Int32))) fun h5 => J0 h5 l0)))
theorem bX11_skip_0 {E : EV} {X : AX} {post : Option AV → AH → Prop} (C : Cb E X cX11_skip RX11 1 rmX11_skip) (D : Cr E X none rmX11_skip "skip" post) {J0 : AH → Option Nat → Prop} (g0 : ∀ (h : AH) (l0 : Option Nat), J0 h l0 → Go E X 1 0 0 0 [(0, aP l0)] [] h) {h : AH} {l0 : Option Nat} (w : PX11_skip_0 E post J0 h l0) : Go E X 1 0 0 0 [(0, aP l0)] [] h := by
  unfold PX11_skip_0 at w
  refine r_aload_n C dX11_skip_0 rfl 0 rfl ?_
  refine r_getI C fcX11 (f := 14) (by decide) rfl k957 dX11_skip_1 (w.mono fun x1 w => ?_)
  refine r_if_ne C dX11_skip_4 (tgt := 29) rfl (fun hc => ?_) (fun hc => ?_)
  · have w := w.1 hc
    exact r_vret C D rfl (Nat.zero_le _) (Nat.zero_le _) dX11_skip_29 w
  · have w := w.2 hc
    refine r_aload_n C dX11_skip_7 rfl 0 rfl ?_
    refine r_cvI (rm' := rmX11_here) C mX11_here vX11_here k1060 [] [] rfl rfl (Nat.le_of_ble_eq_true rfl) (by decide) ⟨Nat.zero_le _, Nat.zero_le _⟩ 0 0 rfl rfl dX11_skip_8 w (fun x2 h3 w => ?_)
    refine r_bipush (v := 32) C dX11_skip_11 rfl ?_
    refine r_icmp_ne C dX11_skip_13 (tgt := 29) rfl (fun hc => ?_) (fun hc => ?_)
    · have w := w.1 hc
      exact r_vret C D rfl (Nat.zero_le _) (Nat.zero_le _) dX11_skip_29 w
    · have w := w.2 hc
      refine r_aload_n C dX11_skip_16 rfl 0 rfl ?_
      refine r_dup C dX11_skip_17 rfl ?_
      refine r_getI C fcX11 (f := 13) (by decide) rfl k956 dX11_skip_18 (w.mono fun x4 w => ?_)
      refine r_iconst (v := 1) C dX11_skip_21 rfl ?_
      refine r_iadd C dX11_skip_22 ?_
      refine r_put C fcX11 (f := 13) (by decide) rfl rfl rfl rfl k956 dX11_skip_23 (w.mono fun h5 w => ?_)
      refine r_goto C dX11_skip_26 (tgt := 0) rfl ?_
      exact (g0 h5 l0 w)
theorem lpX11_skip_0 {E : EV} {X : AX} {post : Option AV → AH → Prop} (C : Cb E X cX11_skip RX11 1 rmX11_skip) (D : Cr E X none rmX11_skip "skip" post) (I : Nat → AH → Option Nat → Prop) (step : ∀ (z : Nat) (h : AH) (l0 : Option Nat), I z h l0 → PX11_skip_0 E post (fun h l0 => ∃ z', z' < z ∧ I z' h l0) h l0) : ∀ (z : Nat) (h : AH) (l0 : Option Nat), I z h l0 → Go E X 1 0 0 0 [(0, aP l0)] [] h := by
  intro z
  induction z using Nat.strongRecOn with
  | _ z ih =>
    intro h l0 hI
    exact bX11_skip_0 C D (fun h l0 hJ => by obtain ⟨z', hz, hi⟩ := hJ; exact ih z' hz h l0 hi) (step z h l0 hI)
theorem eX11_skip {E : EV} {post : Option AV → AH → Prop} {h : AH} {l0 : Option Nat} (g : ∀ X : AX, Cb E X cX11_skip RX11 1 rmX11_skip → Cr E X none rmX11_skip "skip" post → Go E X 1 0 0 0 [(0, aP l0)] [] h) : sX11_skip E [aP l0] h post := Spec.of RX11 rfl rfl (Nat.le_of_ble_eq_true rfl) g
theorem dX11_isDigit_0 : decode cX11_isDigit 0 = .ok (.aload_n 0, 1) := by decide +kernel
theorem dX11_isDigit_1 : decode cX11_isDigit 1 = .ok (.invokevirtual 153, 3) := by decide +kernel
theorem dX11_isDigit_4 : decode cX11_isDigit 4 = .ok (.bipush 48, 2) := by decide +kernel
theorem dX11_isDigit_6 : decode cX11_isDigit 6 = .ok (.bipush 57, 2) := by decide +kernel
theorem dX11_isDigit_8 : decode cX11_isDigit 8 = .ok (.invokestatic 46, 3) := by decide +kernel
theorem dX11_isDigit_11 : decode cX11_isDigit 11 = .ok (.ireturn, 1) := by decide +kernel
abbrev rmX11_isDigit : Room := { frames := 1, cells := 0, slots := 0, locals := 40 }
abbrev sX11_isDigit (E : EV) : List AV → AH → (Option AV → AH → Prop) → Prop := Spec E yX11_isDigit cX11_isDigit 1 (some .boolean) rmX11_isDigit
theorem mX11_isDigit : Mt yX11_isDigit cX11_isDigit 1 (some .boolean) 0 := ⟨k1091, k12, by decide +kernel⟩
theorem vX11_isDigit : MtV yX11_isDigit 11 := ⟨k1090, kp38, by decide, (RX11, TX11, 26), rfl, rfl⟩
def PX11_isDigit_0 (E : EV) (post : Option AV → AH → Prop) (h : AH) (l0 : Option Nat) : Prop :=
  CV (sX11_here E) l0 11 [] h (kI fun x1 h2 => CS (sX11_in E) [aI x1, aI (48 : Int32), aI (57 : Int32)] h2 (kI fun x3 h4 => (x3 = 0 ∨ x3 = 1) ∧ post (some (aI x3)) h4))
theorem bX11_isDigit_0 {E : EV} {X : AX} {post : Option AV → AH → Prop} (C : Cb E X cX11_isDigit RX11 1 rmX11_isDigit) (D : Cr E X (some .boolean) rmX11_isDigit "isDigit" post) {h : AH} {l0 : Option Nat} (w : PX11_isDigit_0 E post h l0) : Go E X 1 0 0 0 [(0, aP l0)] [] h := by
  unfold PX11_isDigit_0 at w
  refine r_aload_n C dX11_isDigit_0 rfl 0 rfl ?_
  refine r_cvI (rm' := rmX11_here) C mX11_here vX11_here k1060 [] [] rfl rfl (Nat.le_of_ble_eq_true rfl) (by decide) ⟨Nat.zero_le _, Nat.zero_le _⟩ 0 0 rfl rfl dX11_isDigit_1 w (fun x1 h2 w => ?_)
  refine r_bipush (v := 48) C dX11_isDigit_4 rfl ?_
  refine r_bipush (v := 57) C dX11_isDigit_6 rfl ?_
  refine r_csI (rm' := rmX11_in) C mX11_in vX11_in k1036 [aI x1, aI (48 : Int32), aI (57 : Int32)] [] rfl rfl (Nat.le_of_ble_eq_true rfl) (by decide) ⟨Nat.zero_le _, Nat.zero_le _⟩ 0 0 rfl rfl dX11_isDigit_8 w (fun x3 h4 w => ?_)
  exact r_zret C D rfl w.1 (Nat.zero_le _) (Nat.zero_le _) dX11_isDigit_11 w.2
theorem eX11_isDigit {E : EV} {post : Option AV → AH → Prop} {h : AH} {l0 : Option Nat} (w : PX11_isDigit_0 E post h l0) : sX11_isDigit E [aP l0] h post := Spec.of RX11 rfl rfl (Nat.le_of_ble_eq_true rfl) fun X C D => bX11_isDigit_0 C D w
theorem dX11_coordinate_0 : decode cX11_coordinate 0 = .ok (.aload_n 0, 1) := by decide +kernel
theorem dX11_coordinate_1 : decode cX11_coordinate 1 = .ok (.invokevirtual 161, 3) := by decide +kernel
theorem dX11_coordinate_4 : decode cX11_coordinate 4 = .ok (.aload_n 0, 1) := by decide +kernel
theorem dX11_coordinate_5 : decode cX11_coordinate 5 = .ok (.getfield 157, 3) := by decide +kernel
theorem dX11_coordinate_8 : decode cX11_coordinate 8 = .ok (.ifCond .ne 16, 3) := by decide +kernel
theorem dX11_coordinate_11 : decode cX11_coordinate 11 = .ok (.aload_n 0, 1) := by decide +kernel
theorem dX11_coordinate_12 : decode cX11_coordinate 12 = .ok (.invokevirtual 153, 3) := by decide +kernel
theorem dX11_coordinate_15 : decode cX11_coordinate 15 = .ok (.bipush 45, 2) := by decide +kernel
theorem dX11_coordinate_17 : decode cX11_coordinate 17 = .ok (.if_icmp .ne 7, 3) := by decide +kernel
theorem dX11_coordinate_20 : decode cX11_coordinate 20 = .ok (.iconst 1, 1) := by decide +kernel
theorem dX11_coordinate_21 : decode cX11_coordinate 21 = .ok (.goto 4, 3) := by decide +kernel
theorem dX11_coordinate_24 : decode cX11_coordinate 24 = .ok (.iconst 0, 1) := by decide +kernel
theorem dX11_coordinate_25 : decode cX11_coordinate 25 = .ok (.istore_n 1, 1) := by decide +kernel
theorem dX11_coordinate_26 : decode cX11_coordinate 26 = .ok (.aload_n 0, 1) := by decide +kernel
theorem dX11_coordinate_27 : decode cX11_coordinate 27 = .ok (.dup, 1) := by decide +kernel
theorem dX11_coordinate_28 : decode cX11_coordinate 28 = .ok (.getfield 150, 3) := by decide +kernel
theorem dX11_coordinate_31 : decode cX11_coordinate 31 = .ok (.iload_n 1, 1) := by decide +kernel
theorem dX11_coordinate_32 : decode cX11_coordinate 32 = .ok (.ifCond .eq 7, 3) := by decide +kernel
theorem dX11_coordinate_35 : decode cX11_coordinate 35 = .ok (.iconst 1, 1) := by decide +kernel
theorem dX11_coordinate_36 : decode cX11_coordinate 36 = .ok (.goto 4, 3) := by decide +kernel
theorem dX11_coordinate_39 : decode cX11_coordinate 39 = .ok (.iconst 0, 1) := by decide +kernel
theorem dX11_coordinate_40 : decode cX11_coordinate 40 = .ok (.iadd, 1) := by decide +kernel
theorem dX11_coordinate_41 : decode cX11_coordinate 41 = .ok (.putfield 150, 3) := by decide +kernel
theorem dX11_coordinate_44 : decode cX11_coordinate 44 = .ok (.aload_n 0, 1) := by decide +kernel
theorem dX11_coordinate_45 : decode cX11_coordinate 45 = .ok (.aload_n 0, 1) := by decide +kernel
theorem dX11_coordinate_46 : decode cX11_coordinate 46 = .ok (.getfield 157, 3) := by decide +kernel
theorem dX11_coordinate_49 : decode cX11_coordinate 49 = .ok (.ifCond .ne 10, 3) := by decide +kernel
theorem dX11_coordinate_52 : decode cX11_coordinate 52 = .ok (.aload_n 0, 1) := by decide +kernel
theorem dX11_coordinate_53 : decode cX11_coordinate 53 = .ok (.invokevirtual 164, 3) := by decide +kernel
theorem dX11_coordinate_56 : decode cX11_coordinate 56 = .ok (.ifCond .ne 7, 3) := by decide +kernel
theorem dX11_coordinate_59 : decode cX11_coordinate 59 = .ok (.iconst 1, 1) := by decide +kernel
theorem dX11_coordinate_60 : decode cX11_coordinate 60 = .ok (.goto 4, 3) := by decide +kernel
theorem dX11_coordinate_63 : decode cX11_coordinate 63 = .ok (.iconst 0, 1) := by decide +kernel
theorem dX11_coordinate_64 : decode cX11_coordinate 64 = .ok (.putfield 157, 3) := by decide +kernel
theorem dX11_coordinate_67 : decode cX11_coordinate 67 = .ok (.iconst 0, 1) := by decide +kernel
theorem dX11_coordinate_68 : decode cX11_coordinate 68 = .ok (.istore_n 2, 1) := by decide +kernel
theorem dX11_coordinate_69 : decode cX11_coordinate 69 = .ok (.aload_n 0, 1) := by decide +kernel
theorem dX11_coordinate_70 : decode cX11_coordinate 70 = .ok (.getfield 157, 3) := by decide +kernel
theorem dX11_coordinate_73 : decode cX11_coordinate 73 = .ok (.ifCond .ne 55, 3) := by decide +kernel
theorem dX11_coordinate_76 : decode cX11_coordinate 76 = .ok (.aload_n 0, 1) := by decide +kernel
theorem dX11_coordinate_77 : decode cX11_coordinate 77 = .ok (.invokevirtual 153, 3) := by decide +kernel
theorem dX11_coordinate_80 : decode cX11_coordinate 80 = .ok (.bipush 48, 2) := by decide +kernel
theorem dX11_coordinate_82 : decode cX11_coordinate 82 = .ok (.isub, 1) := by decide +kernel
theorem dX11_coordinate_83 : decode cX11_coordinate 83 = .ok (.istore_n 2, 1) := by decide +kernel
theorem dX11_coordinate_84 : decode cX11_coordinate 84 = .ok (.aload_n 0, 1) := by decide +kernel
theorem dX11_coordinate_85 : decode cX11_coordinate 85 = .ok (.dup, 1) := by decide +kernel
theorem dX11_coordinate_86 : decode cX11_coordinate 86 = .ok (.getfield 150, 3) := by decide +kernel
theorem dX11_coordinate_89 : decode cX11_coordinate 89 = .ok (.iconst 1, 1) := by decide +kernel
theorem dX11_coordinate_90 : decode cX11_coordinate 90 = .ok (.iadd, 1) := by decide +kernel
theorem dX11_coordinate_91 : decode cX11_coordinate 91 = .ok (.putfield 150, 3) := by decide +kernel
theorem dX11_coordinate_94 : decode cX11_coordinate 94 = .ok (.iload_n 2, 1) := by decide +kernel
theorem dX11_coordinate_95 : decode cX11_coordinate 95 = .ok (.ifCond .le 33, 3) := by decide +kernel
theorem dX11_coordinate_98 : decode cX11_coordinate 98 = .ok (.aload_n 0, 1) := by decide +kernel
theorem dX11_coordinate_99 : decode cX11_coordinate 99 = .ok (.invokevirtual 164, 3) := by decide +kernel
theorem dX11_coordinate_102 : decode cX11_coordinate 102 = .ok (.ifCond .eq 26, 3) := by decide +kernel
theorem dX11_coordinate_105 : decode cX11_coordinate 105 = .ok (.bipush 10, 2) := by decide +kernel
theorem dX11_coordinate_107 : decode cX11_coordinate 107 = .ok (.iload_n 2, 1) := by decide +kernel
theorem dX11_coordinate_108 : decode cX11_coordinate 108 = .ok (.imul, 1) := by decide +kernel
theorem dX11_coordinate_109 : decode cX11_coordinate 109 = .ok (.aload_n 0, 1) := by decide +kernel
theorem dX11_coordinate_110 : decode cX11_coordinate 110 = .ok (.invokevirtual 153, 3) := by decide +kernel
theorem dX11_coordinate_113 : decode cX11_coordinate 113 = .ok (.iadd, 1) := by decide +kernel
theorem dX11_coordinate_114 : decode cX11_coordinate 114 = .ok (.bipush 48, 2) := by decide +kernel
theorem dX11_coordinate_116 : decode cX11_coordinate 116 = .ok (.isub, 1) := by decide +kernel
theorem dX11_coordinate_117 : decode cX11_coordinate 117 = .ok (.istore_n 2, 1) := by decide +kernel
theorem dX11_coordinate_118 : decode cX11_coordinate 118 = .ok (.aload_n 0, 1) := by decide +kernel
theorem dX11_coordinate_119 : decode cX11_coordinate 119 = .ok (.dup, 1) := by decide +kernel
theorem dX11_coordinate_120 : decode cX11_coordinate 120 = .ok (.getfield 150, 3) := by decide +kernel
theorem dX11_coordinate_123 : decode cX11_coordinate 123 = .ok (.iconst 1, 1) := by decide +kernel
theorem dX11_coordinate_124 : decode cX11_coordinate 124 = .ok (.iadd, 1) := by decide +kernel
theorem dX11_coordinate_125 : decode cX11_coordinate 125 = .ok (.putfield 150, 3) := by decide +kernel
theorem dX11_coordinate_128 : decode cX11_coordinate 128 = .ok (.iload_n 1, 1) := by decide +kernel
theorem dX11_coordinate_129 : decode cX11_coordinate 129 = .ok (.ifCond .eq 8, 3) := by decide +kernel
theorem dX11_coordinate_132 : decode cX11_coordinate 132 = .ok (.iload_n 2, 1) := by decide +kernel
theorem dX11_coordinate_133 : decode cX11_coordinate 133 = .ok (.ineg, 1) := by decide +kernel
theorem dX11_coordinate_134 : decode cX11_coordinate 134 = .ok (.goto 4, 3) := by decide +kernel
theorem dX11_coordinate_137 : decode cX11_coordinate 137 = .ok (.iload_n 2, 1) := by decide +kernel
theorem dX11_coordinate_138 : decode cX11_coordinate 138 = .ok (.ireturn, 1) := by decide +kernel
abbrev rmX11_coordinate : Room := { frames := 2, cells := 0, slots := 0, locals := 80 }
abbrev sX11_coordinate (E : EV) : List AV → AH → (Option AV → AH → Prop) → Prop := Spec E yX11_coordinate cX11_coordinate 3 (some .int) rmX11_coordinate
theorem mX11_coordinate : Mt yX11_coordinate cX11_coordinate 3 (some .int) 0 := ⟨k1340, k12, by decide +kernel⟩
theorem vX11_coordinate : MtV yX11_coordinate 11 := ⟨k1339, kp74, by decide, (RX11, TX11, 26), rfl, rfl⟩
def PX11_coordinate_128 (E : EV) (post : Option AV → AH → Prop) (h : AH) (l1 : Int32) (l2 : Int32) : Prop :=
  (l1 = 0 → post (some (aI l2)) h) ∧ (¬ l1 = 0 → post (some (aI (-l2))) h)
theorem bX11_coordinate_128 {E : EV} {X : AX} {post : Option AV → AH → Prop} (C : Cb E X cX11_coordinate RX11 3 rmX11_coordinate) (D : Cr E X (some .int) rmX11_coordinate "coordinate" post) {h : AH} {l1 : Int32} {l2 : Int32} (w : PX11_coordinate_128 E post h l1 l2) : Go E X 3 0 0 128 [(1, aI l1), (2, aI l2)] [] h := by
  unfold PX11_coordinate_128 at w
  refine r_iload_n C dX11_coordinate_128 rfl 0 rfl ?_
  refine r_if_eq C dX11_coordinate_129 (tgt := 137) rfl (fun hc => ?_) (fun hc => ?_)
  · have w := w.1 hc
    refine r_iload_n C dX11_coordinate_137 rfl 1 rfl ?_
    exact r_iret C D rfl (Nat.zero_le _) (Nat.zero_le _) dX11_coordinate_138 w
  · have w := w.2 hc
    refine r_iload_n C dX11_coordinate_132 rfl 1 rfl ?_
    refine r_ineg C dX11_coordinate_133 ?_
    refine r_goto C dX11_coordinate_134 (tgt := 138) rfl ?_
    exact r_iret C D rfl (Nat.zero_le _) (Nat.zero_le _) dX11_coordinate_138 w
def PX11_coordinate_64 (E : EV) (post : Option AV → AH → Prop) (h : AH) (l0 : Option Nat) (l1 : Int32) (s0 : Option Nat) (s1 : Int32) : Prop :=
  (s1 = 0 ∨ s1 = 1) ∧ wr h s0 11 14 (aI s1) (fun h1 => rdI h1 l0 11 14 fun x3 => (¬ x3 = 0 → PX11_coordinate_128 E post h1 l1 (0 : Int32)) ∧ (x3 = 0 → CV (sX11_here E) l0 11 [] h1 (kI fun x4 h5 => ∀ v6, v6 = (x4 - (48 : Int32)) → rdI h5 l0 11 13 fun x7 => wr h5 l0 11 13 (aI (x7 + (1 : Int32))) fun h8 => (v6 ≤ 0 → PX11_coordinate_128 E post h8 l1 v6) ∧ (¬ v6 ≤ 0 → CV (sX11_isDigit E) l0 11 [] h8 (kI fun x9 h10 => (x9 = 0 → PX11_coordinate_128 E post h10 l1 v6) ∧ (¬ x9 = 0 → CV (sX11_here E) l0 11 [] h10 (kI fun x11 h12 => ∀ v13, v13 = ((((10 : Int32) * v6) + x11) - (48 : Int32)) → rdI h12 l0 11 13 fun x14 => wr h12 l0 11 13 (aI (x14 + (1 : Int32))) fun h15 => PX11_coordinate_128 E post h15 l1 v13)))))))
theorem bX11_coordinate_64 {E : EV} {X : AX} {post : Option AV → AH → Prop} (C : Cb E X cX11_coordinate RX11 3 rmX11_coordinate) (D : Cr E X (some .int) rmX11_coordinate "coordinate" post) {h : AH} {l0 : Option Nat} {l1 : Int32} {s0 : Option Nat} {s1 : Int32} (w : PX11_coordinate_64 E post h l0 l1 s0 s1) : Go E X 3 0 0 64 [(0, aP l0), (1, aI l1)] [aI s1, aP s0] h := by
  unfold PX11_coordinate_64 at w
  have hz := w.1
  have w := w.2
  refine r_put C fcX11 (f := 14) (by decide) rfl rfl (nr_Z hz) (ft_Z hz) k957 dX11_coordinate_64 (w.mono fun h1 w => ?_)
  refine r_iconst (v := 0) C dX11_coordinate_67 rfl ?_
  refine r_istore_n C dX11_coordinate_68 rfl (by decide) rfl ?_
  refine r_aload_n C dX11_coordinate_69 rfl 1 rfl ?_
  refine r_getI C fcX11 (f := 14) (by decide) rfl k957 dX11_coordinate_70 (w.mono fun x3 w => ?_)
  refine r_if_ne C dX11_coordinate_73 (tgt := 128) rfl (fun hc => ?_) (fun hc => ?_)
  · have w := w.1 hc
    exact r_sub [2, 0] rfl (bX11_coordinate_128 C D w)
  · have w := w.2 hc
    refine r_aload_n C dX11_coordinate_76 rfl 1 rfl ?_
    refine r_cvI (rm' := rmX11_here) C mX11_here vX11_here k1060 [] [] rfl rfl (Nat.le_of_ble_eq_true rfl) (by decide) ⟨Nat.zero_le _, Nat.zero_le _⟩ 0 0 rfl rfl dX11_coordinate_77 w (fun x4 h5 w => ?_)
    refine r_bipush (v := 48) C dX11_coordinate_80 rfl ?_
    refine r_isub C dX11_coordinate_82 ?_
    refine r_istore_n C dX11_coordinate_83 rfl (by decide) rfl ?_
    have w := w _ rfl
    skip
    refine r_aload_n C dX11_coordinate_84 rfl 1 rfl ?_
    refine r_dup C dX11_coordinate_85 rfl ?_
    refine r_getI C fcX11 (f := 13) (by decide) rfl k956 dX11_coordinate_86 (w.mono fun x7 w => ?_)
    refine r_iconst (v := 1) C dX11_coordinate_89 rfl ?_
    refine r_iadd C dX11_coordinate_90 ?_
    refine r_put C fcX11 (f := 13) (by decide) rfl rfl rfl rfl k956 dX11_coordinate_91 (w.mono fun h8 w => ?_)
    refine r_iload_n C dX11_coordinate_94 rfl 0 rfl ?_
    refine r_if_le C dX11_coordinate_95 (tgt := 128) rfl (fun hc => ?_) (fun hc => ?_)
    · have w := w.1 hc
      exact r_sub [2, 0] rfl (bX11_coordinate_128 C D w)
    · have w := w.2 hc
      refine r_aload_n C dX11_coordinate_98 rfl 1 rfl ?_
      refine r_cvI (rm' := rmX11_isDigit) C mX11_isDigit vX11_isDigit k1088 [] [] rfl rfl (Nat.le_of_ble_eq_true rfl) (by decide) ⟨Nat.zero_le _, Nat.zero_le _⟩ 0 0 rfl rfl dX11_coordinate_99 w (fun x9 h10 w => ?_)
      refine r_if_eq C dX11_coordinate_102 (tgt := 128) rfl (fun hc => ?_) (fun hc => ?_)
      · have w := w.1 hc
        exact r_sub [2, 0] rfl (bX11_coordinate_128 C D w)
      · have w := w.2 hc
        refine r_bipush (v := 10) C dX11_coordinate_105 rfl ?_
        refine r_iload_n C dX11_coordinate_107 rfl 0 rfl ?_
        refine r_imul C dX11_coordinate_108 ?_
        refine r_aload_n C dX11_coordinate_109 rfl 1 rfl ?_
        refine r_cvI (rm' := rmX11_here) C mX11_here vX11_here k1060 [] [aI ((10 : Int32) * (x4 - (48 : Int32)))] rfl rfl (Nat.le_of_ble_eq_true rfl) (by decide) ⟨Nat.zero_le _, Nat.zero_le _⟩ 0 0 rfl rfl dX11_coordinate_110 w (fun x11 h12 w => ?_)
        refine r_iadd C dX11_coordinate_113 ?_
        refine r_bipush (v := 48) C dX11_coordinate_114 rfl ?_
        refine r_isub C dX11_coordinate_116 ?_
        refine r_istore_n C dX11_coordinate_117 rfl (by decide) rfl ?_
        have w := w _ rfl
        skip
        refine r_aload_n C dX11_coordinate_118 rfl 1 rfl ?_
        refine r_dup C dX11_coordinate_119 rfl ?_
        refine r_getI C fcX11 (f := 13) (by decide) rfl k956 dX11_coordinate_120 (w.mono fun x14 w => ?_)
        refine r_iconst (v := 1) C dX11_coordinate_123 rfl ?_
        refine r_iadd C dX11_coordinate_124 ?_
        refine r_put C fcX11 (f := 13) (by decide) rfl rfl rfl rfl k956 dX11_coordinate_125 (w.mono fun h15 w => ?_)
        exact r_sub [2, 0] rfl (bX11_coordinate_128 C D w)
def PX11_coordinate_59 (E : EV) (post : Option AV → AH → Prop) (h : AH) (l0 : Option Nat) (l1 : Int32) (s0 : Option Nat) : Prop :=
  PX11_coordinate_64 E post h l0 l1 s0 (1 : Int32)
theorem bX11_coordinate_59 {E : EV} {X : AX} {post : Option AV → AH → Prop} (C : Cb E X cX11_coordinate RX11 3 rmX11_coordinate) (D : Cr E X (some .int) rmX11_coordinate "coordinate" post) {h : AH} {l0 : Option Nat} {l1 : Int32} {s0 : Option Nat} (w : PX11_coordinate_59 E post h l0 l1 s0) : Go E X 3 0 0 59 [(0, aP l0), (1, aI l1)] [aP s0] h := by
  unfold PX11_coordinate_59 at w
  refine r_iconst (v := 1) C dX11_coordinate_59 rfl ?_
  refine r_goto C dX11_coordinate_60 (tgt := 64) rfl ?_
  exact (bX11_coordinate_64 C D w)
def PX11_coordinate_40 (E : EV) (post : Option AV → AH → Prop) (h : AH) (l0 : Option Nat) (l1 : Int32) (s0 : Option Nat) (s1 : Int32) (s2 : Int32) : Prop :=
  wr h s0 11 13 (aI (s1 + s2)) fun h1 => rdI h1 l0 11 14 fun x2 => (¬ x2 = 0 → PX11_coordinate_59 E post h1 l0 l1 l0) ∧ (x2 = 0 → CV (sX11_isDigit E) l0 11 [] h1 (kI fun x3 h4 => (¬ x3 = 0 → PX11_coordinate_64 E post h4 l0 l1 l0 (0 : Int32)) ∧ (x3 = 0 → PX11_coordinate_59 E post h4 l0 l1 l0)))
theorem bX11_coordinate_40 {E : EV} {X : AX} {post : Option AV → AH → Prop} (C : Cb E X cX11_coordinate RX11 3 rmX11_coordinate) (D : Cr E X (some .int) rmX11_coordinate "coordinate" post) {h : AH} {l0 : Option Nat} {l1 : Int32} {s0 : Option Nat} {s1 : Int32} {s2 : Int32} (w : PX11_coordinate_40 E post h l0 l1 s0 s1 s2) : Go E X 3 0 0 40 [(0, aP l0), (1, aI l1)] [aI s2, aI s1, aP s0] h := by
  unfold PX11_coordinate_40 at w
  refine r_iadd C dX11_coordinate_40 ?_
  refine r_put C fcX11 (f := 13) (by decide) rfl rfl rfl rfl k956 dX11_coordinate_41 (w.mono fun h1 w => ?_)
  refine r_aload_n C dX11_coordinate_44 rfl 0 rfl ?_
  refine r_aload_n C dX11_coordinate_45 rfl 0 rfl ?_
  refine r_getI C fcX11 (f := 14) (by decide) rfl k957 dX11_coordinate_46 (w.mono fun x2 w => ?_)
  refine r_if_ne C dX11_coordinate_49 (tgt := 59) rfl (fun hc => ?_) (fun hc => ?_)
  · have w := w.1 hc
    exact (bX11_coordinate_59 C D w)
  · have w := w.2 hc
    refine r_aload_n C dX11_coordinate_52 rfl 0 rfl ?_
    refine r_cvI (rm' := rmX11_isDigit) C mX11_isDigit vX11_isDigit k1088 [] [aP l0] rfl rfl (Nat.le_of_ble_eq_true rfl) (by decide) ⟨Nat.zero_le _, Nat.zero_le _⟩ 0 0 rfl rfl dX11_coordinate_53 w (fun x3 h4 w => ?_)
    refine r_if_ne C dX11_coordinate_56 (tgt := 63) rfl (fun hc => ?_) (fun hc => ?_)
    · have w := w.1 hc
      refine r_iconst (v := 0) C dX11_coordinate_63 rfl ?_
      exact (bX11_coordinate_64 C D w)
    · have w := w.2 hc
      exact (bX11_coordinate_59 C D w)
def PX11_coordinate_25 (E : EV) (post : Option AV → AH → Prop) (h : AH) (l0 : Option Nat) (s0 : Int32) : Prop :=
  rdI h l0 11 13 fun x2 => (s0 = 0 → PX11_coordinate_40 E post h l0 s0 l0 x2 (0 : Int32)) ∧ (¬ s0 = 0 → PX11_coordinate_40 E post h l0 s0 l0 x2 (1 : Int32))
theorem bX11_coordinate_25 {E : EV} {X : AX} {post : Option AV → AH → Prop} (C : Cb E X cX11_coordinate RX11 3 rmX11_coordinate) (D : Cr E X (some .int) rmX11_coordinate "coordinate" post) {h : AH} {l0 : Option Nat} {s0 : Int32} (w : PX11_coordinate_25 E post h l0 s0) : Go E X 3 0 0 25 [(0, aP l0)] [aI s0] h := by
  unfold PX11_coordinate_25 at w
  refine r_istore_n C dX11_coordinate_25 rfl (by decide) rfl ?_
  refine r_aload_n C dX11_coordinate_26 rfl 1 rfl ?_
  refine r_dup C dX11_coordinate_27 rfl ?_
  refine r_getI C fcX11 (f := 13) (by decide) rfl k956 dX11_coordinate_28 (w.mono fun x2 w => ?_)
  refine r_iload_n C dX11_coordinate_31 rfl 0 rfl ?_
  refine r_if_eq C dX11_coordinate_32 (tgt := 39) rfl (fun hc => ?_) (fun hc => ?_)
  · have w := w.1 hc
    refine r_iconst (v := 0) C dX11_coordinate_39 rfl ?_
    exact r_sub [1, 0] rfl (bX11_coordinate_40 C D w)
  · have w := w.2 hc
    refine r_iconst (v := 1) C dX11_coordinate_35 rfl ?_
    refine r_goto C dX11_coordinate_36 (tgt := 40) rfl ?_
    exact r_sub [1, 0] rfl (bX11_coordinate_40 C D w)
def PX11_coordinate_24 (E : EV) (post : Option AV → AH → Prop) (h : AH) (l0 : Option Nat) : Prop :=
  PX11_coordinate_25 E post h l0 (0 : Int32)
theorem bX11_coordinate_24 {E : EV} {X : AX} {post : Option AV → AH → Prop} (C : Cb E X cX11_coordinate RX11 3 rmX11_coordinate) (D : Cr E X (some .int) rmX11_coordinate "coordinate" post) {h : AH} {l0 : Option Nat} (w : PX11_coordinate_24 E post h l0) : Go E X 3 0 0 24 [(0, aP l0)] [] h := by
  unfold PX11_coordinate_24 at w
  refine r_iconst (v := 0) C dX11_coordinate_24 rfl ?_
  exact (bX11_coordinate_25 C D w)
def PX11_coordinate_0 (E : EV) (post : Option AV → AH → Prop) (h : AH) (l0 : Option Nat) : Prop :=
  CV (sX11_skip E) l0 11 [] h (kV fun h2 => rdI h2 l0 11 14 fun x3 => (¬ x3 = 0 → PX11_coordinate_24 E post h2 l0) ∧ (x3 = 0 → CV (sX11_here E) l0 11 [] h2 (kI fun x4 h5 => (¬ x4 = (45 : Int32) → PX11_coordinate_24 E post h5 l0) ∧ (x4 = (45 : Int32) → PX11_coordinate_25 E post h5 l0 (1 : Int32)))))
theorem bX11_coordinate_0 {E : EV} {X : AX} {post : Option AV → AH → Prop} (C : Cb E X cX11_coordinate RX11 3 rmX11_coordinate) (D : Cr E X (some .int) rmX11_coordinate "coordinate" post) {h : AH} {l0 : Option Nat} (w : PX11_coordinate_0 E post h l0) : Go E X 3 0 0 0 [(0, aP l0)] [] h := by
  unfold PX11_coordinate_0 at w
  refine r_aload_n C dX11_coordinate_0 rfl 0 rfl ?_
  refine r_cvV (rm' := rmX11_skip) C mX11_skip vX11_skip k1056 [] [] rfl rfl (Nat.le_of_ble_eq_true rfl) (by decide) ⟨Nat.zero_le _, Nat.zero_le _⟩ 0 0 rfl rfl dX11_coordinate_1 w (fun h2 w => ?_)
  refine r_aload_n C dX11_coordinate_4 rfl 0 rfl ?_
  refine r_getI C fcX11 (f := 14) (by decide) rfl k957 dX11_coordinate_5 (w.mono fun x3 w => ?_)
  refine r_if_ne C dX11_coordinate_8 (tgt := 24) rfl (fun hc => ?_) (fun hc => ?_)
  · have w := w.1 hc
    exact (bX11_coordinate_24 C D w)
  · have w := w.2 hc
    refine r_aload_n C dX11_coordinate_11 rfl 0 rfl ?_
    refine r_cvI (rm' := rmX11_here) C mX11_here vX11_here k1060 [] [] rfl rfl (Nat.le_of_ble_eq_true rfl) (by decide) ⟨Nat.zero_le _, Nat.zero_le _⟩ 0 0 rfl rfl dX11_coordinate_12 w (fun x4 h5 w => ?_)
    refine r_bipush (v := 45) C dX11_coordinate_15 rfl ?_
    refine r_icmp_ne C dX11_coordinate_17 (tgt := 24) rfl (fun hc => ?_) (fun hc => ?_)
    · have w := w.1 hc
      exact (bX11_coordinate_24 C D w)
    · have w := w.2 hc
      refine r_iconst (v := 1) C dX11_coordinate_20 rfl ?_
      refine r_goto C dX11_coordinate_21 (tgt := 25) rfl ?_
      exact (bX11_coordinate_25 C D w)
theorem eX11_coordinate {E : EV} {post : Option AV → AH → Prop} {h : AH} {l0 : Option Nat} (w : PX11_coordinate_0 E post h l0) : sX11_coordinate E [aP l0] h post := Spec.of RX11 rfl rfl (Nat.le_of_ble_eq_true rfl) fun X C D => bX11_coordinate_0 C D w
theorem dX11_copy_0 : decode cX11_copy 0 = .ok (.iconst 0, 1) := by decide +kernel
theorem dX11_copy_1 : decode cX11_copy 1 = .ok (.istore_n 3, 1) := by decide +kernel
theorem dX11_copy_2 : decode cX11_copy 2 = .ok (.iload_n 3, 1) := by decide +kernel
theorem dX11_copy_3 : decode cX11_copy 3 = .ok (.bipush 40, 2) := by decide +kernel
theorem dX11_copy_5 : decode cX11_copy 5 = .ok (.if_icmp .ge 25, 3) := by decide +kernel
theorem dX11_copy_8 : decode cX11_copy 8 = .ok (.aload_n 0, 1) := by decide +kernel
theorem dX11_copy_9 : decode cX11_copy 9 = .ok (.getfield 7, 3) := by decide +kernel
theorem dX11_copy_12 : decode cX11_copy 12 = .ok (.iload_n 2, 1) := by decide +kernel
theorem dX11_copy_13 : decode cX11_copy 13 = .ok (.iload_n 3, 1) := by decide +kernel
theorem dX11_copy_14 : decode cX11_copy 14 = .ok (.iadd, 1) := by decide +kernel
theorem dX11_copy_15 : decode cX11_copy 15 = .ok (.aload_n 0, 1) := by decide +kernel
theorem dX11_copy_16 : decode cX11_copy 16 = .ok (.getfield 7, 3) := by decide +kernel
theorem dX11_copy_19 : decode cX11_copy 19 = .ok (.iload_n 1, 1) := by decide +kernel
theorem dX11_copy_20 : decode cX11_copy 20 = .ok (.iload_n 3, 1) := by decide +kernel
theorem dX11_copy_21 : decode cX11_copy 21 = .ok (.iadd, 1) := by decide +kernel
theorem dX11_copy_22 : decode cX11_copy 22 = .ok (.iaload, 1) := by decide +kernel
theorem dX11_copy_23 : decode cX11_copy 23 = .ok (.iastore, 1) := by decide +kernel
theorem dX11_copy_24 : decode cX11_copy 24 = .ok (.iinc 3 1, 3) := by decide +kernel
theorem dX11_copy_27 : decode cX11_copy 27 = .ok (.goto (-25), 3) := by decide +kernel
theorem dX11_copy_30 : decode cX11_copy 30 = .ok (.return_, 1) := by decide +kernel
abbrev rmX11_copy : Room := { frames := 0, cells := 0, slots := 0, locals := 0 }
abbrev sX11_copy (E : EV) : List AV → AH → (Option AV → AH → Prop) → Prop := Spec E yX11_copy cX11_copy 4 none rmX11_copy
theorem mX11_copy : Mt yX11_copy cX11_copy 4 none 2 := ⟨k1106, k12, by decide +kernel⟩
theorem vX11_copy : MtV yX11_copy 11 := ⟨k1105, kp41, by decide, (RX11, TX11, 26), rfl, rfl⟩
def PX11_copy_2 (E : EV) (post : Option AV → AH → Prop) (J2 : AH → Option Nat → Int32 → Int32 → Int32 → Prop) (h : AH) (l0 : Option Nat) (l1 : Int32) (l2 : Int32) (l3 : Int32) : Prop :=
  ((40 : Int32) ≤ l3 → post none h) ∧ (¬ (40 : Int32) ≤ l3 → rdP h l0 11 0 fun x1 => rdP h l0 11 0 fun x2 => aldI h x2 0 (l1 + l3) fun x3 => astI h x1 0 (l2 + l3) x3 fun h4 => J2 h4 l0 l1 l2 (l3 + (1 : Int32)))
theorem bX11_copy_2 {E : EV} {X : AX} {post : Option AV → AH → Prop} (C : Cb E X cX11_copy RX11 4 rmX11_copy) (D : Cr E X none rmX11_copy "copy" post) {J2 : AH → Option Nat → Int32 → Int32 → Int32 → Prop} (g2 : ∀ (h : AH) (l0 : Option Nat) (l1 : Int32) (l2 : Int32) (l3 : Int32), J2 h l0 l1 l2 l3 → Go E X 4 0 0 2 [(0, aP l0), (1, aI l1), (2, aI l2), (3, aI l3)] [] h) {h : AH} {l0 : Option Nat} {l1 : Int32} {l2 : Int32} {l3 : Int32} (w : PX11_copy_2 E post J2 h l0 l1 l2 l3) : Go E X 4 0 0 2 [(0, aP l0), (1, aI l1), (2, aI l2), (3, aI l3)] [] h := by
  unfold PX11_copy_2 at w
  refine r_iload_n C dX11_copy_2 rfl 3 rfl ?_
  refine r_bipush (v := 40) C dX11_copy_3 rfl ?_
  refine r_icmp_ge C dX11_copy_5 (tgt := 30) rfl (fun hc => ?_) (fun hc => ?_)
  · have w := w.1 hc
    exact r_vret C D rfl (Nat.zero_le _) (Nat.zero_le _) dX11_copy_30 w
  · have w := w.2 hc
    refine r_aload_n C dX11_copy_8 rfl 0 rfl ?_
    refine r_getP C fcX11 (f := 0) (by decide) rfl k943 dX11_copy_9 (w.mono fun x1 w => ?_)
    refine r_iload_n C dX11_copy_12 rfl 2 rfl ?_
    refine r_iload_n C dX11_copy_13 rfl 3 rfl ?_
    refine r_iadd C dX11_copy_14 ?_
    refine r_aload_n C dX11_copy_15 rfl 0 rfl ?_
    refine r_getP C fcX11 (f := 0) (by decide) rfl k943 dX11_copy_16 (w.mono fun x2 w => ?_)
    refine r_iload_n C dX11_copy_19 rfl 1 rfl ?_
    refine r_iload_n C dX11_copy_20 rfl 3 rfl ?_
    refine r_iadd C dX11_copy_21 ?_
    refine r_iald C dX11_copy_22 (w.mono fun x3 w => ?_)
    refine r_iast C dX11_copy_23 (w.mono fun h4 w => ?_)
    refine r_iinc C dX11_copy_24 3 rfl (v := 1) rfl (by decide) rfl ?_
    refine r_goto C dX11_copy_27 (tgt := 2) rfl ?_
    exact r_sub [1, 2, 3, 0] rfl (g2 h4 l0 l1 l2 (l3 + (1 : Int32)) w)
theorem lpX11_copy_2 {E : EV} {X : AX} {post : Option AV → AH → Prop} (C : Cb E X cX11_copy RX11 4 rmX11_copy) (D : Cr E X none rmX11_copy "copy" post) (I : Nat → AH → Option Nat → Int32 → Int32 → Int32 → Prop) (step : ∀ (z : Nat) (h : AH) (l0 : Option Nat) (l1 : Int32) (l2 : Int32) (l3 : Int32), I z h l0 l1 l2 l3 → PX11_copy_2 E post (fun h l0 l1 l2 l3 => ∃ z', z' < z ∧ I z' h l0 l1 l2 l3) h l0 l1 l2 l3) : ∀ (z : Nat) (h : AH) (l0 : Option Nat) (l1 : Int32) (l2 : Int32) (l3 : Int32), I z h l0 l1 l2 l3 → Go E X 4 0 0 2 [(0, aP l0), (1, aI l1), (2, aI l2), (3, aI l3)] [] h := by
  intro z
  induction z using Nat.strongRecOn with
  | _ z ih =>
    intro h l0 l1 l2 l3 hI
    exact bX11_copy_2 C D (fun h l0 l1 l2 l3 hJ => by obtain ⟨z', hz, hi⟩ := hJ; exact ih z' hz h l0 l1 l2 l3 hi) (step z h l0 l1 l2 l3 hI)
def PX11_copy_0 (E : EV) (post : Option AV → AH → Prop) (J2 : AH → Option Nat → Int32 → Int32 → Int32 → Prop) (h : AH) (l0 : Option Nat) (l1 : Int32) (l2 : Int32) : Prop :=
  J2 h l0 l1 l2 (0 : Int32)
theorem bX11_copy_0 {E : EV} {X : AX} {post : Option AV → AH → Prop} (C : Cb E X cX11_copy RX11 4 rmX11_copy) (D : Cr E X none rmX11_copy "copy" post) {J2 : AH → Option Nat → Int32 → Int32 → Int32 → Prop} (g2 : ∀ (h : AH) (l0 : Option Nat) (l1 : Int32) (l2 : Int32) (l3 : Int32), J2 h l0 l1 l2 l3 → Go E X 4 0 0 2 [(0, aP l0), (1, aI l1), (2, aI l2), (3, aI l3)] [] h) {h : AH} {l0 : Option Nat} {l1 : Int32} {l2 : Int32} (w : PX11_copy_0 E post J2 h l0 l1 l2) : Go E X 4 0 0 0 [(0, aP l0), (1, aI l1), (2, aI l2)] [] h := by
  unfold PX11_copy_0 at w
  refine r_iconst (v := 0) C dX11_copy_0 rfl ?_
  refine r_istore_n C dX11_copy_1 rfl (by decide) rfl ?_
  exact r_sub [1, 2, 3, 0] rfl (g2 h l0 l1 l2 (0 : Int32) w)
theorem eX11_copy {E : EV} {post : Option AV → AH → Prop} {h : AH} {l0 : Option Nat} {l1 : Int32} {l2 : Int32} {J2 : AH → Option Nat → Int32 → Int32 → Int32 → Prop} (g2 : ∀ X : AX, Cb E X cX11_copy RX11 4 rmX11_copy → Cr E X none rmX11_copy "copy" post → ∀ (h : AH) (l0 : Option Nat) (l1 : Int32) (l2 : Int32) (l3 : Int32), J2 h l0 l1 l2 l3 → Go E X 4 0 0 2 [(0, aP l0), (1, aI l1), (2, aI l2), (3, aI l3)] [] h) (w : PX11_copy_0 E post J2 h l0 l1 l2) : sX11_copy E [aP l0, aI l1, aI l2] h post := Spec.of RX11 rfl rfl (Nat.le_of_ble_eq_true rfl) fun X C D => bX11_copy_0 C D (g2 X C D) w
theorem dX11_turn_0 : decode cX11_turn 0 = .ok (.iconst 4, 1) := by decide +kernel
theorem dX11_turn_1 : decode cX11_turn 1 = .ok (.istore_n 2, 1) := by decide +kernel
theorem dX11_turn_2 : decode cX11_turn 2 = .ok (.iload_n 2, 1) := by decide +kernel
theorem dX11_turn_3 : decode cX11_turn 3 = .ok (.bipush 40, 2) := by decide +kernel
theorem dX11_turn_5 : decode cX11_turn 5 = .ok (.if_icmp .ge 48, 3) := by decide +kernel
theorem dX11_turn_8 : decode cX11_turn 8 = .ok (.aload_n 0, 1) := by decide +kernel
theorem dX11_turn_9 : decode cX11_turn 9 = .ok (.getfield 7, 3) := by decide +kernel
theorem dX11_turn_12 : decode cX11_turn 12 = .ok (.iload_n 1, 1) := by decide +kernel
theorem dX11_turn_13 : decode cX11_turn 13 = .ok (.iload_n 2, 1) := by decide +kernel
theorem dX11_turn_14 : decode cX11_turn 14 = .ok (.iadd, 1) := by decide +kernel
theorem dX11_turn_15 : decode cX11_turn 15 = .ok (.iaload, 1) := by decide +kernel
theorem dX11_turn_16 : decode cX11_turn 16 = .ok (.istore_n 3, 1) := by decide +kernel
theorem dX11_turn_17 : decode cX11_turn 17 = .ok (.aload_n 0, 1) := by decide +kernel
theorem dX11_turn_18 : decode cX11_turn 18 = .ok (.getfield 7, 3) := by decide +kernel
theorem dX11_turn_21 : decode cX11_turn 21 = .ok (.iload_n 1, 1) := by decide +kernel
theorem dX11_turn_22 : decode cX11_turn 22 = .ok (.iload_n 2, 1) := by decide +kernel
theorem dX11_turn_23 : decode cX11_turn 23 = .ok (.iadd, 1) := by decide +kernel
theorem dX11_turn_24 : decode cX11_turn 24 = .ok (.aload_n 0, 1) := by decide +kernel
theorem dX11_turn_25 : decode cX11_turn 25 = .ok (.getfield 7, 3) := by decide +kernel
theorem dX11_turn_28 : decode cX11_turn 28 = .ok (.iload_n 1, 1) := by decide +kernel
theorem dX11_turn_29 : decode cX11_turn 29 = .ok (.iload_n 2, 1) := by decide +kernel
theorem dX11_turn_30 : decode cX11_turn 30 = .ok (.iadd, 1) := by decide +kernel
theorem dX11_turn_31 : decode cX11_turn 31 = .ok (.iconst 1, 1) := by decide +kernel
theorem dX11_turn_32 : decode cX11_turn 32 = .ok (.iadd, 1) := by decide +kernel
theorem dX11_turn_33 : decode cX11_turn 33 = .ok (.iaload, 1) := by decide +kernel
theorem dX11_turn_34 : decode cX11_turn 34 = .ok (.ineg, 1) := by decide +kernel
theorem dX11_turn_35 : decode cX11_turn 35 = .ok (.iastore, 1) := by decide +kernel
theorem dX11_turn_36 : decode cX11_turn 36 = .ok (.aload_n 0, 1) := by decide +kernel
theorem dX11_turn_37 : decode cX11_turn 37 = .ok (.getfield 7, 3) := by decide +kernel
theorem dX11_turn_40 : decode cX11_turn 40 = .ok (.iload_n 1, 1) := by decide +kernel
theorem dX11_turn_41 : decode cX11_turn 41 = .ok (.iload_n 2, 1) := by decide +kernel
theorem dX11_turn_42 : decode cX11_turn 42 = .ok (.iadd, 1) := by decide +kernel
theorem dX11_turn_43 : decode cX11_turn 43 = .ok (.iconst 1, 1) := by decide +kernel
theorem dX11_turn_44 : decode cX11_turn 44 = .ok (.iadd, 1) := by decide +kernel
theorem dX11_turn_45 : decode cX11_turn 45 = .ok (.iload_n 3, 1) := by decide +kernel
theorem dX11_turn_46 : decode cX11_turn 46 = .ok (.iastore, 1) := by decide +kernel
theorem dX11_turn_47 : decode cX11_turn 47 = .ok (.iinc 2 2, 3) := by decide +kernel
theorem dX11_turn_50 : decode cX11_turn 50 = .ok (.goto (-48), 3) := by decide +kernel
theorem dX11_turn_53 : decode cX11_turn 53 = .ok (.return_, 1) := by decide +kernel
abbrev rmX11_turn : Room := { frames := 0, cells := 0, slots := 0, locals := 0 }
abbrev sX11_turn (E : EV) : List AV → AH → (Option AV → AH → Prop) → Prop := Spec E yX11_turn cX11_turn 4 none rmX11_turn
theorem mX11_turn : Mt yX11_turn cX11_turn 4 none 1 := ⟨k1126, k12, by decide +kernel⟩
theorem vX11_turn : MtV yX11_turn 11 := ⟨k1125, kp44, by decide, (RX11, TX11, 26), rfl, rfl⟩
def PX11_turn_2 (E : EV) (post : Option AV → AH → Prop) (J2 : AH → Option Nat → Int32 → Int32 → Prop) (h : AH) (l0 : Option Nat) (l1 : Int32) (l2 : Int32) : Prop :=
  ((40 : Int32) ≤ l2 → post none h) ∧ (¬ (40 : Int32) ≤ l2 → rdP h l0 11 0 fun x1 => aldI h x1 0 (l1 + l2) fun x2 => rdP h l0 11 0 fun x4 => rdP h l0 11 0 fun x5 => aldI h x5 0 ((l1 + l2) + (1 : Int32)) fun x6 => astI h x4 0 (l1 + l2) (-x6) fun h7 => rdP h7 l0 11 0 fun x8 => astI h7 x8 0 ((l1 + l2) + (1 : Int32)) x2 fun h9 => J2 h9 l0 l1 (l2 + (2 : Int32)))
theorem bX11_turn_2 {E : EV} {X : AX} {post : Option AV → AH → Prop} (C : Cb E X cX11_turn RX11 4 rmX11_turn) (D : Cr E X none rmX11_turn "turn" post) {J2 : AH → Option Nat → Int32 → Int32 → Prop} (g2 : ∀ (h : AH) (l0 : Option Nat) (l1 : Int32) (l2 : Int32), J2 h l0 l1 l2 → Go E X 4 0 0 2 [(0, aP l0), (1, aI l1), (2, aI l2)] [] h) {h : AH} {l0 : Option Nat} {l1 : Int32} {l2 : Int32} (w : PX11_turn_2 E post J2 h l0 l1 l2) : Go E X 4 0 0 2 [(0, aP l0), (1, aI l1), (2, aI l2)] [] h := by
  unfold PX11_turn_2 at w
  refine r_iload_n C dX11_turn_2 rfl 2 rfl ?_
  refine r_bipush (v := 40) C dX11_turn_3 rfl ?_
  refine r_icmp_ge C dX11_turn_5 (tgt := 53) rfl (fun hc => ?_) (fun hc => ?_)
  · have w := w.1 hc
    exact r_vret C D rfl (Nat.zero_le _) (Nat.zero_le _) dX11_turn_53 w
  · have w := w.2 hc
    refine r_aload_n C dX11_turn_8 rfl 0 rfl ?_
    refine r_getP C fcX11 (f := 0) (by decide) rfl k943 dX11_turn_9 (w.mono fun x1 w => ?_)
    refine r_iload_n C dX11_turn_12 rfl 1 rfl ?_
    refine r_iload_n C dX11_turn_13 rfl 2 rfl ?_
    refine r_iadd C dX11_turn_14 ?_
    refine r_iald C dX11_turn_15 (w.mono fun x2 w => ?_)
    refine r_istore_n C dX11_turn_16 rfl (by decide) rfl ?_
    refine r_aload_n C dX11_turn_17 rfl 1 rfl ?_
    refine r_getP C fcX11 (f := 0) (by decide) rfl k943 dX11_turn_18 (w.mono fun x4 w => ?_)
    refine r_iload_n C dX11_turn_21 rfl 2 rfl ?_
    refine r_iload_n C dX11_turn_22 rfl 3 rfl ?_
    refine r_iadd C dX11_turn_23 ?_
    refine r_aload_n C dX11_turn_24 rfl 1 rfl ?_
    refine r_getP C fcX11 (f := 0) (by decide) rfl k943 dX11_turn_25 (w.mono fun x5 w => ?_)
    refine r_iload_n C dX11_turn_28 rfl 2 rfl ?_
    refine r_iload_n C dX11_turn_29 rfl 3 rfl ?_
    refine r_iadd C dX11_turn_30 ?_
    refine r_iconst (v := 1) C dX11_turn_31 rfl ?_
    refine r_iadd C dX11_turn_32 ?_
    refine r_iald C dX11_turn_33 (w.mono fun x6 w => ?_)
    refine r_ineg C dX11_turn_34 ?_
    refine r_iast C dX11_turn_35 (w.mono fun h7 w => ?_)
    refine r_aload_n C dX11_turn_36 rfl 1 rfl ?_
    refine r_getP C fcX11 (f := 0) (by decide) rfl k943 dX11_turn_37 (w.mono fun x8 w => ?_)
    refine r_iload_n C dX11_turn_40 rfl 2 rfl ?_
    refine r_iload_n C dX11_turn_41 rfl 3 rfl ?_
    refine r_iadd C dX11_turn_42 ?_
    refine r_iconst (v := 1) C dX11_turn_43 rfl ?_
    refine r_iadd C dX11_turn_44 ?_
    refine r_iload_n C dX11_turn_45 rfl 0 rfl ?_
    refine r_iast C dX11_turn_46 (w.mono fun h9 w => ?_)
    refine r_iinc C dX11_turn_47 3 rfl (v := 2) rfl (by decide) rfl ?_
    refine r_goto C dX11_turn_50 (tgt := 2) rfl ?_
    exact r_sub [2, 3, 0] rfl (g2 h9 l0 l1 (l2 + (2 : Int32)) w)
theorem lpX11_turn_2 {E : EV} {X : AX} {post : Option AV → AH → Prop} (C : Cb E X cX11_turn RX11 4 rmX11_turn) (D : Cr E X none rmX11_turn "turn" post) (I : Nat → AH → Option Nat → Int32 → Int32 → Prop) (step : ∀ (z : Nat) (h : AH) (l0 : Option Nat) (l1 : Int32) (l2 : Int32), I z h l0 l1 l2 → PX11_turn_2 E post (fun h l0 l1 l2 => ∃ z', z' < z ∧ I z' h l0 l1 l2) h l0 l1 l2) : ∀ (z : Nat) (h : AH) (l0 : Option Nat) (l1 : Int32) (l2 : Int32), I z h l0 l1 l2 → Go E X 4 0 0 2 [(0, aP l0), (1, aI l1), (2, aI l2)] [] h := by
  intro z
  induction z using Nat.strongRecOn with
  | _ z ih =>
    intro h l0 l1 l2 hI
    exact bX11_turn_2 C D (fun h l0 l1 l2 hJ => by obtain ⟨z', hz, hi⟩ := hJ; exact ih z' hz h l0 l1 l2 hi) (step z h l0 l1 l2 hI)
def PX11_turn_0 (E : EV) (post : Option AV → AH → Prop) (J2 : AH → Option Nat → Int32 → Int32 → Prop) (h : AH) (l0 : Option Nat) (l1 : Int32) : Prop :=
  J2 h l0 l1 (4 : Int32)
theorem bX11_turn_0 {E : EV} {X : AX} {post : Option AV → AH → Prop} (C : Cb E X cX11_turn RX11 4 rmX11_turn) (D : Cr E X none rmX11_turn "turn" post) {J2 : AH → Option Nat → Int32 → Int32 → Prop} (g2 : ∀ (h : AH) (l0 : Option Nat) (l1 : Int32) (l2 : Int32), J2 h l0 l1 l2 → Go E X 4 0 0 2 [(0, aP l0), (1, aI l1), (2, aI l2)] [] h) {h : AH} {l0 : Option Nat} {l1 : Int32} (w : PX11_turn_0 E post J2 h l0 l1) : Go E X 4 0 0 0 [(0, aP l0), (1, aI l1)] [] h := by
  unfold PX11_turn_0 at w
  refine r_iconst (v := 4) C dX11_turn_0 rfl ?_
  refine r_istore_n C dX11_turn_1 rfl (by decide) rfl ?_
  exact r_sub [1, 2, 0] rfl (g2 h l0 l1 (4 : Int32) w)
theorem eX11_turn {E : EV} {post : Option AV → AH → Prop} {h : AH} {l0 : Option Nat} {l1 : Int32} {J2 : AH → Option Nat → Int32 → Int32 → Prop} (g2 : ∀ X : AX, Cb E X cX11_turn RX11 4 rmX11_turn → Cr E X none rmX11_turn "turn" post → ∀ (h : AH) (l0 : Option Nat) (l1 : Int32) (l2 : Int32), J2 h l0 l1 l2 → Go E X 4 0 0 2 [(0, aP l0), (1, aI l1), (2, aI l2)] [] h) (w : PX11_turn_0 E post J2 h l0 l1) : sX11_turn E [aP l0, aI l1] h post := Spec.of RX11 rfl rfl (Nat.le_of_ble_eq_true rfl) fun X C D => bX11_turn_0 C D (g2 X C D) w
theorem dX11_copyShape_0 : decode cX11_copyShape 0 = .ok (.iload_n 1, 1) := by decide +kernel
theorem dX11_copyShape_1 : decode cX11_copyShape 1 = .ok (.invokestatic 182, 3) := by decide +kernel
theorem dX11_copyShape_4 : decode cX11_copyShape 4 = .ok (.ifCond .eq 19, 3) := by decide +kernel
theorem dX11_copyShape_7 : decode cX11_copyShape 7 = .ok (.iload_n 2, 1) := by decide +kernel
theorem dX11_copyShape_8 : decode cX11_copyShape 8 = .ok (.invokestatic 182, 3) := by decide +kernel
theorem dX11_copyShape_11 : decode cX11_copyShape 11 = .ok (.ifCond .eq 12, 3) := by decide +kernel
theorem dX11_copyShape_14 : decode cX11_copyShape 14 = .ok (.iload_n 3, 1) := by decide +kernel
theorem dX11_copyShape_15 : decode cX11_copyShape 15 = .ok (.iconst 0, 1) := by decide +kernel
theorem dX11_copyShape_16 : decode cX11_copyShape 16 = .ok (.iconst 3, 1) := by decide +kernel
theorem dX11_copyShape_17 : decode cX11_copyShape 17 = .ok (.invokestatic 46, 3) := by decide +kernel
theorem dX11_copyShape_20 : decode cX11_copyShape 20 = .ok (.ifCond .ne 6, 3) := by decide +kernel
theorem dX11_copyShape_23 : decode cX11_copyShape 23 = .ok (.ldc 145, 2) := by decide +kernel
theorem dX11_copyShape_25 : decode cX11_copyShape 25 = .ok (.ireturn, 1) := by decide +kernel
theorem dX11_copyShape_26 : decode cX11_copyShape 26 = .ok (.aload_n 0, 1) := by decide +kernel
theorem dX11_copyShape_27 : decode cX11_copyShape 27 = .ok (.iload_n 1, 1) := by decide +kernel
theorem dX11_copyShape_28 : decode cX11_copyShape 28 = .ok (.invokevirtual 195, 3) := by decide +kernel
theorem dX11_copyShape_31 : decode cX11_copyShape 31 = .ok (.ifCond .eq 6, 3) := by decide +kernel
theorem dX11_copyShape_34 : decode cX11_copyShape 34 = .ok (.ldc 42, 2) := by decide +kernel
theorem dX11_copyShape_36 : decode cX11_copyShape 36 = .ok (.ireturn, 1) := by decide +kernel
theorem dX11_copyShape_37 : decode cX11_copyShape 37 = .ok (.aload_n 0, 1) := by decide +kernel
theorem dX11_copyShape_38 : decode cX11_copyShape 38 = .ok (.invokevirtual 188, 3) := by decide +kernel
theorem dX11_copyShape_41 : decode cX11_copyShape 41 = .ok (.aload_n 0, 1) := by decide +kernel
theorem dX11_copyShape_42 : decode cX11_copyShape 42 = .ok (.iload_n 1, 1) := by decide +kernel
theorem dX11_copyShape_43 : decode cX11_copyShape 43 = .ok (.invokestatic 50, 3) := by decide +kernel
theorem dX11_copyShape_46 : decode cX11_copyShape 46 = .ok (.iload_n 2, 1) := by decide +kernel
theorem dX11_copyShape_47 : decode cX11_copyShape 47 = .ok (.invokestatic 50, 3) := by decide +kernel
theorem dX11_copyShape_50 : decode cX11_copyShape 50 = .ok (.invokevirtual 191, 3) := by decide +kernel
theorem dX11_copyShape_53 : decode cX11_copyShape 53 = .ok (.iconst 0, 1) := by decide +kernel
theorem dX11_copyShape_54 : decode cX11_copyShape 54 = .ok (.istore 4, 2) := by decide +kernel
theorem dX11_copyShape_56 : decode cX11_copyShape 56 = .ok (.iload 4, 2) := by decide +kernel
theorem dX11_copyShape_58 : decode cX11_copyShape 58 = .ok (.iload_n 3, 1) := by decide +kernel
theorem dX11_copyShape_59 : decode cX11_copyShape 59 = .ok (.if_icmp .ge 17, 3) := by decide +kernel
theorem dX11_copyShape_62 : decode cX11_copyShape 62 = .ok (.aload_n 0, 1) := by decide +kernel
theorem dX11_copyShape_63 : decode cX11_copyShape 63 = .ok (.iload_n 2, 1) := by decide +kernel
theorem dX11_copyShape_64 : decode cX11_copyShape 64 = .ok (.invokestatic 50, 3) := by decide +kernel
theorem dX11_copyShape_67 : decode cX11_copyShape 67 = .ok (.invokevirtual 198, 3) := by decide +kernel
theorem dX11_copyShape_70 : decode cX11_copyShape 70 = .ok (.iinc 4 1, 3) := by decide +kernel
theorem dX11_copyShape_73 : decode cX11_copyShape 73 = .ok (.goto (-17), 3) := by decide +kernel
theorem dX11_copyShape_76 : decode cX11_copyShape 76 = .ok (.aload_n 0, 1) := by decide +kernel
theorem dX11_copyShape_77 : decode cX11_copyShape 77 = .ok (.iload_n 2, 1) := by decide +kernel
theorem dX11_copyShape_78 : decode cX11_copyShape 78 = .ok (.invokestatic 50, 3) := by decide +kernel
theorem dX11_copyShape_81 : decode cX11_copyShape 81 = .ok (.invokevirtual 66, 3) := by decide +kernel
theorem dX11_copyShape_84 : decode cX11_copyShape 84 = .ok (.ireturn, 1) := by decide +kernel
abbrev rmX11_copyShape : Room := { frames := 2, cells := 0, slots := 0, locals := 80 }
abbrev sX11_copyShape (E : EV) : List AV → AH → (Option AV → AH → Prop) → Prop := Spec E yX11_copyShape cX11_copyShape 5 (some .int) rmX11_copyShape
theorem mX11_copyShape : Mt yX11_copyShape cX11_copyShape 5 (some .int) 3 := ⟨k1122, k12, by decide +kernel⟩
theorem vX11_copyShape : MtV yX11_copyShape 11 := ⟨k1120, k1121, by decide, (RX11, TX11, 26), rfl, rfl⟩
def PX11_copyShape_56 (E : EV) (post : Option AV → AH → Prop) (J56 : AH → Option Nat → Int32 → Int32 → Int32 → Prop) (h : AH) (l0 : Option Nat) (l2 : Int32) (l3 : Int32) (l4 : Int32) : Prop :=
  (l3 ≤ l4 → CS (sX11_slotAt E) [aI l2] h (kI fun x1 h2 => CV (sX11_pieces E) l0 11 [aI x1] h2 (kI fun x3 h4 => post (some (aI x3)) h4))) ∧ (¬ l3 ≤ l4 → CS (sX11_slotAt E) [aI l2] h (kI fun x1 h2 => CV (sX11_turn E) l0 11 [aI x1] h2 (kV fun h4 => J56 h4 l0 l2 l3 (l4 + (1 : Int32)))))
theorem bX11_copyShape_56 {E : EV} {X : AX} {post : Option AV → AH → Prop} (C : Cb E X cX11_copyShape RX11 5 rmX11_copyShape) (D : Cr E X (some .int) rmX11_copyShape "copyShape" post) {J56 : AH → Option Nat → Int32 → Int32 → Int32 → Prop} (g56 : ∀ (h : AH) (l0 : Option Nat) (l2 : Int32) (l3 : Int32) (l4 : Int32), J56 h l0 l2 l3 l4 → Go E X 5 0 0 56 [(0, aP l0), (2, aI l2), (3, aI l3), (4, aI l4)] [] h) {h : AH} {l0 : Option Nat} {l2 : Int32} {l3 : Int32} {l4 : Int32} (w : PX11_copyShape_56 E post J56 h l0 l2 l3 l4) : Go E X 5 0 0 56 [(0, aP l0), (2, aI l2), (3, aI l3), (4, aI l4)] [] h := by
  unfold PX11_copyShape_56 at w
  refine r_iload C dX11_copyShape_56 3 rfl ?_
  refine r_iload_n C dX11_copyShape_58 rfl 2 rfl ?_
  refine r_icmp_ge C dX11_copyShape_59 (tgt := 76) rfl (fun hc => ?_) (fun hc => ?_)
  · have w := w.1 hc
    refine r_aload_n C dX11_copyShape_76 rfl 0 rfl ?_
    refine r_iload_n C dX11_copyShape_77 rfl 1 rfl ?_
    refine r_csI (rm' := rmX11_slotAt) C mX11_slotAt vX11_slotAt k1100 [aI l2] [aP l0] rfl rfl (Nat.le_of_ble_eq_true rfl) (by decide) ⟨Nat.zero_le _, Nat.zero_le _⟩ 0 0 rfl rfl dX11_copyShape_78 w (fun x1 h2 w => ?_)
    refine r_cvI (rm' := rmX11_pieces) C mX11_pieces vX11_pieces k1115 [aI x1] [] rfl rfl (Nat.le_of_ble_eq_true rfl) (by decide) ⟨Nat.zero_le _, Nat.zero_le _⟩ 0 0 rfl rfl dX11_copyShape_81 w (fun x3 h4 w => ?_)
    exact r_iret C D rfl (Nat.zero_le _) (Nat.zero_le _) dX11_copyShape_84 w
  · have w := w.2 hc
    refine r_aload_n C dX11_copyShape_62 rfl 0 rfl ?_
    refine r_iload_n C dX11_copyShape_63 rfl 1 rfl ?_
    refine r_csI (rm' := rmX11_slotAt) C mX11_slotAt vX11_slotAt k1100 [aI l2] [aP l0] rfl rfl (Nat.le_of_ble_eq_true rfl) (by decide) ⟨Nat.zero_le _, Nat.zero_le _⟩ 0 0 rfl rfl dX11_copyShape_64 w (fun x1 h2 w => ?_)
    refine r_cvV (rm' := rmX11_turn) C mX11_turn vX11_turn k1123 [aI x1] [] rfl rfl (Nat.le_of_ble_eq_true rfl) (by decide) ⟨Nat.zero_le _, Nat.zero_le _⟩ 0 0 rfl rfl dX11_copyShape_67 w (fun h4 w => ?_)
    refine r_iinc C dX11_copyShape_70 3 rfl (v := 1) rfl (by decide) rfl ?_
    refine r_goto C dX11_copyShape_73 (tgt := 56) rfl ?_
    exact r_sub [1, 2, 3, 0] rfl (g56 h4 l0 l2 l3 (l4 + (1 : Int32)) w)
theorem lpX11_copyShape_56 {E : EV} {X : AX} {post : Option AV → AH → Prop} (C : Cb E X cX11_copyShape RX11 5 rmX11_copyShape) (D : Cr E X (some .int) rmX11_copyShape "copyShape" post) (I : Nat → AH → Option Nat → Int32 → Int32 → Int32 → Prop) (step : ∀ (z : Nat) (h : AH) (l0 : Option Nat) (l2 : Int32) (l3 : Int32) (l4 : Int32), I z h l0 l2 l3 l4 → PX11_copyShape_56 E post (fun h l0 l2 l3 l4 => ∃ z', z' < z ∧ I z' h l0 l2 l3 l4) h l0 l2 l3 l4) : ∀ (z : Nat) (h : AH) (l0 : Option Nat) (l2 : Int32) (l3 : Int32) (l4 : Int32), I z h l0 l2 l3 l4 → Go E X 5 0 0 56 [(0, aP l0), (2, aI l2), (3, aI l3), (4, aI l4)] [] h := by
  intro z
  induction z using Nat.strongRecOn with
  | _ z ih =>
    intro h l0 l2 l3 l4 hI
    exact bX11_copyShape_56 C D (fun h l0 l2 l3 l4 hJ => by obtain ⟨z', hz, hi⟩ := hJ; exact ih z' hz h l0 l2 l3 l4 hi) (step z h l0 l2 l3 l4 hI)
def PX11_copyShape_0 (E : EV) (post : Option AV → AH → Prop) (J56 : AH → Option Nat → Int32 → Int32 → Int32 → Prop) (h : AH) (l0 : Option Nat) (l1 : Int32) (l2 : Int32) (l3 : Int32) : Prop :=
  CS (sX11_isSlot E) [aI l1] h (kI fun x1 h2 => (x1 = 0 → post (some (aI (-1000001 : Int32))) h2) ∧ (¬ x1 = 0 → CS (sX11_isSlot E) [aI l2] h2 (kI fun x3 h4 => (x3 = 0 → post (some (aI (-1000001 : Int32))) h4) ∧ (¬ x3 = 0 → CS (sX11_in E) [aI l3, aI (0 : Int32), aI (3 : Int32)] h4 (kI fun x5 h6 => (¬ x5 = 0 → CV (sX11_isEmpty E) l0 11 [aI l1] h6 (kI fun x7 h8 => (x7 = 0 → CV (sX11_note E) l0 11 [] h8 (kV fun h10 => CS (sX11_slotAt E) [aI l1] h10 (kI fun x11 h12 => CS (sX11_slotAt E) [aI l2] h12 (kI fun x13 h14 => CV (sX11_copy E) l0 11 [aI x11, aI x13] h14 (kV fun h16 => J56 h16 l0 l2 l3 (0 : Int32)))))) ∧ (¬ x7 = 0 → post (some (aI (-1000002 : Int32))) h8))) ∧ (x5 = 0 → post (some (aI (-1000001 : Int32))) h6))))))
theorem bX11_copyShape_0 {E : EV} {X : AX} {post : Option AV → AH → Prop} (C : Cb E X cX11_copyShape RX11 5 rmX11_copyShape) (D : Cr E X (some .int) rmX11_copyShape "copyShape" post) {J56 : AH → Option Nat → Int32 → Int32 → Int32 → Prop} (g56 : ∀ (h : AH) (l0 : Option Nat) (l2 : Int32) (l3 : Int32) (l4 : Int32), J56 h l0 l2 l3 l4 → Go E X 5 0 0 56 [(0, aP l0), (2, aI l2), (3, aI l3), (4, aI l4)] [] h) {h : AH} {l0 : Option Nat} {l1 : Int32} {l2 : Int32} {l3 : Int32} (w : PX11_copyShape_0 E post J56 h l0 l1 l2 l3) : Go E X 5 0 0 0 [(0, aP l0), (1, aI l1), (2, aI l2), (3, aI l3)] [] h := by
  unfold PX11_copyShape_0 at w
  refine r_iload_n C dX11_copyShape_0 rfl 1 rfl ?_
  refine r_csI (rm' := rmX11_isSlot) C mX11_isSlot vX11_isSlot k1049 [aI l1] [] rfl rfl (Nat.le_of_ble_eq_true rfl) (by decide) ⟨Nat.zero_le _, Nat.zero_le _⟩ 0 0 rfl rfl dX11_copyShape_1 w (fun x1 h2 w => ?_)
  refine r_if_eq C dX11_copyShape_4 (tgt := 23) rfl (fun hc => ?_) (fun hc => ?_)
  · have w := w.1 hc
    refine r_ldc (v := -1000001) C dX11_copyShape_23 k1039 ?_
    exact r_iret C D rfl (Nat.zero_le _) (Nat.zero_le _) dX11_copyShape_25 w
  · have w := w.2 hc
    refine r_iload_n C dX11_copyShape_7 rfl 2 rfl ?_
    refine r_csI (rm' := rmX11_isSlot) C mX11_isSlot vX11_isSlot k1049 [aI l2] [] rfl rfl (Nat.le_of_ble_eq_true rfl) (by decide) ⟨Nat.zero_le _, Nat.zero_le _⟩ 0 0 rfl rfl dX11_copyShape_8 w (fun x3 h4 w => ?_)
    refine r_if_eq C dX11_copyShape_11 (tgt := 23) rfl (fun hc => ?_) (fun hc => ?_)
    · have w := w.1 hc
      refine r_ldc (v := -1000001) C dX11_copyShape_23 k1039 ?_
      exact r_iret C D rfl (Nat.zero_le _) (Nat.zero_le _) dX11_copyShape_25 w
    · have w := w.2 hc
      refine r_iload_n C dX11_copyShape_14 rfl 3 rfl ?_
      refine r_iconst (v := 0) C dX11_copyShape_15 rfl ?_
      refine r_iconst (v := 3) C dX11_copyShape_16 rfl ?_
      refine r_csI (rm' := rmX11_in) C mX11_in vX11_in k1036 [aI l3, aI (0 : Int32), aI (3 : Int32)] [] rfl rfl (Nat.le_of_ble_eq_true rfl) (by decide) ⟨Nat.zero_le _, Nat.zero_le _⟩ 0 0 rfl rfl dX11_copyShape_17 w (fun x5 h6 w => ?_)
      refine r_if_ne C dX11_copyShape_20 (tgt := 26) rfl (fun hc => ?_) (fun hc => ?_)
      · have w := w.1 hc
        refine r_aload_n C dX11_copyShape_26 rfl 0 rfl ?_
        refine r_iload_n C dX11_copyShape_27 rfl 1 rfl ?_
        refine r_cvI (rm' := rmX11_isEmpty) C mX11_isEmpty vX11_isEmpty k1111 [aI l1] [] rfl rfl (Nat.le_of_ble_eq_true rfl) (by decide) ⟨Nat.zero_le _, Nat.zero_le _⟩ 0 0 rfl rfl dX11_copyShape_28 w (fun x7 h8 w => ?_)
        refine r_if_eq C dX11_copyShape_31 (tgt := 37) rfl (fun hc => ?_) (fun hc => ?_)
        · have w := w.1 hc
          refine r_aload_n C dX11_copyShape_37 rfl 0 rfl ?_
          refine r_cvV (rm' := rmX11_note) C mX11_note vX11_note k1096 [] [] rfl rfl (Nat.le_of_ble_eq_true rfl) (by decide) ⟨Nat.zero_le _, Nat.zero_le _⟩ 0 0 rfl rfl dX11_copyShape_38 w (fun h10 w => ?_)
          refine r_aload_n C dX11_copyShape_41 rfl 0 rfl ?_
          refine r_iload_n C dX11_copyShape_42 rfl 1 rfl ?_
          refine r_csI (rm' := rmX11_slotAt) C mX11_slotAt vX11_slotAt k1100 [aI l1] [aP l0] rfl rfl (Nat.le_of_ble_eq_true rfl) (by decide) ⟨Nat.zero_le _, Nat.zero_le _⟩ 0 0 rfl rfl dX11_copyShape_43 w (fun x11 h12 w => ?_)
          refine r_iload_n C dX11_copyShape_46 rfl 2 rfl ?_
          refine r_csI (rm' := rmX11_slotAt) C mX11_slotAt vX11_slotAt k1100 [aI l2] [aI x11, aP l0] rfl rfl (Nat.le_of_ble_eq_true rfl) (by decide) ⟨Nat.zero_le _, Nat.zero_le _⟩ 0 0 rfl rfl dX11_copyShape_47 w (fun x13 h14 w => ?_)
          refine r_cvV (rm' := rmX11_copy) C mX11_copy vX11_copy k1103 [aI x11, aI x13] [] rfl rfl (Nat.le_of_ble_eq_true rfl) (by decide) ⟨Nat.zero_le _, Nat.zero_le _⟩ 0 0 rfl rfl dX11_copyShape_50 w (fun h16 w => ?_)
          refine r_iconst (v := 0) C dX11_copyShape_53 rfl ?_
          refine r_istore C dX11_copyShape_54 (by decide) rfl ?_
          exact r_sub [1, 3, 4, 0] rfl (g56 h16 l0 l2 l3 (0 : Int32) w)
        · have w := w.2 hc
          refine r_ldc (v := -1000002) C dX11_copyShape_34 k1027 ?_
          exact r_iret C D rfl (Nat.zero_le _) (Nat.zero_le _) dX11_copyShape_36 w
      · have w := w.2 hc
        refine r_ldc (v := -1000001) C dX11_copyShape_23 k1039 ?_
        exact r_iret C D rfl (Nat.zero_le _) (Nat.zero_le _) dX11_copyShape_25 w
theorem eX11_copyShape {E : EV} {post : Option AV → AH → Prop} {h : AH} {l0 : Option Nat} {l1 : Int32} {l2 : Int32} {l3 : Int32} {J56 : AH → Option Nat → Int32 → Int32 → Int32 → Prop} (g56 : ∀ X : AX, Cb E X cX11_copyShape RX11 5 rmX11_copyShape → Cr E X (some .int) rmX11_copyShape "copyShape" post → ∀ (h : AH) (l0 : Option Nat) (l2 : Int32) (l3 : Int32) (l4 : Int32), J56 h l0 l2 l3 l4 → Go E X 5 0 0 56 [(0, aP l0), (2, aI l2), (3, aI l3), (4, aI l4)] [] h) (w : PX11_copyShape_0 E post J56 h l0 l1 l2 l3) : sX11_copyShape E [aP l0, aI l1, aI l2, aI l3] h post := Spec.of RX11 rfl rfl (Nat.le_of_ble_eq_true rfl) fun X C D => bX11_copyShape_0 C D (g56 X C D) w
theorem dX11_hasPiece_0 : decode cX11_hasPiece 0 = .ok (.iload_n 1, 1) := by decide +kernel
theorem dX11_hasPiece_1 : decode cX11_hasPiece 1 = .ok (.invokestatic 182, 3) := by decide +kernel
theorem dX11_hasPiece_4 : decode cX11_hasPiece 4 = .ok (.ifCond .eq 25, 3) := by decide +kernel
theorem dX11_hasPiece_7 : decode cX11_hasPiece 7 = .ok (.iload_n 2, 1) := by decide +kernel
theorem dX11_hasPiece_8 : decode cX11_hasPiece 8 = .ok (.iconst 0, 1) := by decide +kernel
theorem dX11_hasPiece_9 : decode cX11_hasPiece 9 = .ok (.aload_n 0, 1) := by decide +kernel
theorem dX11_hasPiece_10 : decode cX11_hasPiece 10 = .ok (.iload_n 1, 1) := by decide +kernel
theorem dX11_hasPiece_11 : decode cX11_hasPiece 11 = .ok (.invokestatic 50, 3) := by decide +kernel
theorem dX11_hasPiece_14 : decode cX11_hasPiece 14 = .ok (.invokevirtual 66, 3) := by decide +kernel
theorem dX11_hasPiece_17 : decode cX11_hasPiece 17 = .ok (.iconst 1, 1) := by decide +kernel
theorem dX11_hasPiece_18 : decode cX11_hasPiece 18 = .ok (.isub, 1) := by decide +kernel
theorem dX11_hasPiece_19 : decode cX11_hasPiece 19 = .ok (.invokestatic 46, 3) := by decide +kernel
theorem dX11_hasPiece_22 : decode cX11_hasPiece 22 = .ok (.ifCond .eq 7, 3) := by decide +kernel
theorem dX11_hasPiece_25 : decode cX11_hasPiece 25 = .ok (.iconst 1, 1) := by decide +kernel
theorem dX11_hasPiece_26 : decode cX11_hasPiece 26 = .ok (.goto 4, 3) := by decide +kernel
theorem dX11_hasPiece_29 : decode cX11_hasPiece 29 = .ok (.iconst 0, 1) := by decide +kernel
theorem dX11_hasPiece_30 : decode cX11_hasPiece 30 = .ok (.ireturn, 1) := by decide +kernel
abbrev rmX11_hasPiece : Room := { frames := 2, cells := 0, slots := 0, locals := 80 }
abbrev sX11_hasPiece (E : EV) : List AV → AH → (Option AV → AH → Prop) → Prop := Spec E yX11_hasPiece cX11_hasPiece 3 (some .boolean) rmX11_hasPiece
theorem mX11_hasPiece : Mt yX11_hasPiece cX11_hasPiece 3 (some .boolean) 2 := ⟨k1138, k12, by decide +kernel⟩
theorem vX11_hasPiece : MtV yX11_hasPiece 11 := ⟨k1137, kp45, by decide, (RX11, TX11, 26), rfl, rfl⟩
def PX11_hasPiece_0 (E : EV) (post : Option AV → AH → Prop) (h : AH) (l0 : Option Nat) (l1 : Int32) (l2 : Int32) : Prop :=
  CS (sX11_isSlot E) [aI l1] h (kI fun x1 h2 => (x1 = 0 → post (some (aI (0 : Int32))) h2) ∧ (¬ x1 = 0 → CS (sX11_slotAt E) [aI l1] h2 (kI fun x3 h4 => CV (sX11_pieces E) l0 11 [aI x3] h4 (kI fun x5 h6 => CS (sX11_in E) [aI l2, aI (0 : Int32), aI (x5 - (1 : Int32))] h6 (kI fun x7 h8 => (x7 = 0 → post (some (aI (0 : Int32))) h8) ∧ (¬ x7 = 0 → post (some (aI (1 : Int32))) h8))))))
theorem bX11_hasPiece_0 {E : EV} {X : AX} {post : Option AV → AH → Prop} (C : Cb E X cX11_hasPiece RX11 3 rmX11_hasPiece) (D : Cr E X (some .boolean) rmX11_hasPiece "hasPiece" post) {h : AH} {l0 : Option Nat} {l1 : Int32} {l2 : Int32} (w : PX11_hasPiece_0 E post h l0 l1 l2) : Go E X 3 0 0 0 [(0, aP l0), (1, aI l1), (2, aI l2)] [] h := by
  unfold PX11_hasPiece_0 at w
  refine r_iload_n C dX11_hasPiece_0 rfl 1 rfl ?_
  refine r_csI (rm' := rmX11_isSlot) C mX11_isSlot vX11_isSlot k1049 [aI l1] [] rfl rfl (Nat.le_of_ble_eq_true rfl) (by decide) ⟨Nat.zero_le _, Nat.zero_le _⟩ 0 0 rfl rfl dX11_hasPiece_1 w (fun x1 h2 w => ?_)
  refine r_if_eq C dX11_hasPiece_4 (tgt := 29) rfl (fun hc => ?_) (fun hc => ?_)
  · have w := w.1 hc
    refine r_iconst (v := 0) C dX11_hasPiece_29 rfl ?_
    exact r_zret C D rfl (Or.inl rfl) (Nat.zero_le _) (Nat.zero_le _) dX11_hasPiece_30 w
  · have w := w.2 hc
    refine r_iload_n C dX11_hasPiece_7 rfl 2 rfl ?_
    refine r_iconst (v := 0) C dX11_hasPiece_8 rfl ?_
    refine r_aload_n C dX11_hasPiece_9 rfl 0 rfl ?_
    refine r_iload_n C dX11_hasPiece_10 rfl 1 rfl ?_
    refine r_csI (rm' := rmX11_slotAt) C mX11_slotAt vX11_slotAt k1100 [aI l1] [aP l0, aI (0 : Int32), aI l2] rfl rfl (Nat.le_of_ble_eq_true rfl) (by decide) ⟨Nat.zero_le _, Nat.zero_le _⟩ 0 0 rfl rfl dX11_hasPiece_11 w (fun x3 h4 w => ?_)
    refine r_cvI (rm' := rmX11_pieces) C mX11_pieces vX11_pieces k1115 [aI x3] [aI (0 : Int32), aI l2] rfl rfl (Nat.le_of_ble_eq_true rfl) (by decide) ⟨Nat.zero_le _, Nat.zero_le _⟩ 0 0 rfl rfl dX11_hasPiece_14 w (fun x5 h6 w => ?_)
    refine r_iconst (v := 1) C dX11_hasPiece_17 rfl ?_
    refine r_isub C dX11_hasPiece_18 ?_
    refine r_csI (rm' := rmX11_in) C mX11_in vX11_in k1036 [aI l2, aI (0 : Int32), aI (x5 - (1 : Int32))] [] rfl rfl (Nat.le_of_ble_eq_true rfl) (by decide) ⟨Nat.zero_le _, Nat.zero_le _⟩ 0 0 rfl rfl dX11_hasPiece_19 w (fun x7 h8 w => ?_)
    refine r_if_eq C dX11_hasPiece_22 (tgt := 29) rfl (fun hc => ?_) (fun hc => ?_)
    · have w := w.1 hc
      refine r_iconst (v := 0) C dX11_hasPiece_29 rfl ?_
      exact r_zret C D rfl (Or.inl rfl) (Nat.zero_le _) (Nat.zero_le _) dX11_hasPiece_30 w
    · have w := w.2 hc
      refine r_iconst (v := 1) C dX11_hasPiece_25 rfl ?_
      refine r_goto C dX11_hasPiece_26 (tgt := 30) rfl ?_
      exact r_zret C D rfl (Or.inr rfl) (Nat.zero_le _) (Nat.zero_le _) dX11_hasPiece_30 w
theorem eX11_hasPiece {E : EV} {post : Option AV → AH → Prop} {h : AH} {l0 : Option Nat} {l1 : Int32} {l2 : Int32} (w : PX11_hasPiece_0 E post h l0 l1 l2) : sX11_hasPiece E [aP l0, aI l1, aI l2] h post := Spec.of RX11 rfl rfl (Nat.le_of_ble_eq_true rfl) fun X C D => bX11_hasPiece_0 C D w
theorem dX11_doubleAreaOf_0 : decode cX11_doubleAreaOf 0 = .ok (.iconst 0, 1) := by decide +kernel
theorem dX11_doubleAreaOf_1 : decode cX11_doubleAreaOf 1 = .ok (.istore_n 3, 1) := by decide +kernel
theorem dX11_doubleAreaOf_2 : decode cX11_doubleAreaOf 2 = .ok (.iconst 0, 1) := by decide +kernel
theorem dX11_doubleAreaOf_3 : decode cX11_doubleAreaOf 3 = .ok (.istore 4, 2) := by decide +kernel
theorem dX11_doubleAreaOf_5 : decode cX11_doubleAreaOf 5 = .ok (.iload 4, 2) := by decide +kernel
theorem dX11_doubleAreaOf_7 : decode cX11_doubleAreaOf 7 = .ok (.aload_n 0, 1) := by decide +kernel
theorem dX11_doubleAreaOf_8 : decode cX11_doubleAreaOf 8 = .ok (.iload_n 1, 1) := by decide +kernel
theorem dX11_doubleAreaOf_9 : decode cX11_doubleAreaOf 9 = .ok (.iload_n 2, 1) := by decide +kernel
theorem dX11_doubleAreaOf_10 : decode cX11_doubleAreaOf 10 = .ok (.invokevirtual 54, 3) := by decide +kernel
theorem dX11_doubleAreaOf_13 : decode cX11_doubleAreaOf 13 = .ok (.if_icmp .ge 51, 3) := by decide +kernel
theorem dX11_doubleAreaOf_16 : decode cX11_doubleAreaOf 16 = .ok (.iload_n 3, 1) := by decide +kernel
theorem dX11_doubleAreaOf_17 : decode cX11_doubleAreaOf 17 = .ok (.aload_n 0, 1) := by decide +kernel
theorem dX11_doubleAreaOf_18 : decode cX11_doubleAreaOf 18 = .ok (.iload_n 1, 1) := by decide +kernel
theorem dX11_doubleAreaOf_19 : decode cX11_doubleAreaOf 19 = .ok (.iload_n 2, 1) := by decide +kernel
theorem dX11_doubleAreaOf_20 : decode cX11_doubleAreaOf 20 = .ok (.iload 4, 2) := by decide +kernel
theorem dX11_doubleAreaOf_22 : decode cX11_doubleAreaOf 22 = .ok (.invokevirtual 58, 3) := by decide +kernel
theorem dX11_doubleAreaOf_25 : decode cX11_doubleAreaOf 25 = .ok (.aload_n 0, 1) := by decide +kernel
theorem dX11_doubleAreaOf_26 : decode cX11_doubleAreaOf 26 = .ok (.iload_n 1, 1) := by decide +kernel
theorem dX11_doubleAreaOf_27 : decode cX11_doubleAreaOf 27 = .ok (.iload_n 2, 1) := by decide +kernel
theorem dX11_doubleAreaOf_28 : decode cX11_doubleAreaOf 28 = .ok (.iload 4, 2) := by decide +kernel
theorem dX11_doubleAreaOf_30 : decode cX11_doubleAreaOf 30 = .ok (.iconst 1, 1) := by decide +kernel
theorem dX11_doubleAreaOf_31 : decode cX11_doubleAreaOf 31 = .ok (.iadd, 1) := by decide +kernel
theorem dX11_doubleAreaOf_32 : decode cX11_doubleAreaOf 32 = .ok (.invokevirtual 62, 3) := by decide +kernel
theorem dX11_doubleAreaOf_35 : decode cX11_doubleAreaOf 35 = .ok (.imul, 1) := by decide +kernel
theorem dX11_doubleAreaOf_36 : decode cX11_doubleAreaOf 36 = .ok (.aload_n 0, 1) := by decide +kernel
theorem dX11_doubleAreaOf_37 : decode cX11_doubleAreaOf 37 = .ok (.iload_n 1, 1) := by decide +kernel
theorem dX11_doubleAreaOf_38 : decode cX11_doubleAreaOf 38 = .ok (.iload_n 2, 1) := by decide +kernel
theorem dX11_doubleAreaOf_39 : decode cX11_doubleAreaOf 39 = .ok (.iload 4, 2) := by decide +kernel
theorem dX11_doubleAreaOf_41 : decode cX11_doubleAreaOf 41 = .ok (.iconst 1, 1) := by decide +kernel
theorem dX11_doubleAreaOf_42 : decode cX11_doubleAreaOf 42 = .ok (.iadd, 1) := by decide +kernel
theorem dX11_doubleAreaOf_43 : decode cX11_doubleAreaOf 43 = .ok (.invokevirtual 58, 3) := by decide +kernel
theorem dX11_doubleAreaOf_46 : decode cX11_doubleAreaOf 46 = .ok (.aload_n 0, 1) := by decide +kernel
theorem dX11_doubleAreaOf_47 : decode cX11_doubleAreaOf 47 = .ok (.iload_n 1, 1) := by decide +kernel
theorem dX11_doubleAreaOf_48 : decode cX11_doubleAreaOf 48 = .ok (.iload_n 2, 1) := by decide +kernel
theorem dX11_doubleAreaOf_49 : decode cX11_doubleAreaOf 49 = .ok (.iload 4, 2) := by decide +kernel
theorem dX11_doubleAreaOf_51 : decode cX11_doubleAreaOf 51 = .ok (.invokevirtual 62, 3) := by decide +kernel
theorem dX11_doubleAreaOf_54 : decode cX11_doubleAreaOf 54 = .ok (.imul, 1) := by decide +kernel
theorem dX11_doubleAreaOf_55 : decode cX11_doubleAreaOf 55 = .ok (.isub, 1) := by decide +kernel
theorem dX11_doubleAreaOf_56 : decode cX11_doubleAreaOf 56 = .ok (.iadd, 1) := by decide +kernel
theorem dX11_doubleAreaOf_57 : decode cX11_doubleAreaOf 57 = .ok (.istore_n 3, 1) := by decide +kernel
theorem dX11_doubleAreaOf_58 : decode cX11_doubleAreaOf 58 = .ok (.iinc 4 1, 3) := by decide +kernel
theorem dX11_doubleAreaOf_61 : decode cX11_doubleAreaOf 61 = .ok (.goto (-56), 3) := by decide +kernel
theorem dX11_doubleAreaOf_64 : decode cX11_doubleAreaOf 64 = .ok (.iload_n 3, 1) := by decide +kernel
theorem dX11_doubleAreaOf_65 : decode cX11_doubleAreaOf 65 = .ok (.ireturn, 1) := by decide +kernel
abbrev rmX11_doubleAreaOf : Room := { frames := 1, cells := 0, slots := 0, locals := 40 }
abbrev sX11_doubleAreaOf (E : EV) : List AV → AH → (Option AV → AH → Prop) → Prop := Spec E yX11_doubleAreaOf cX11_doubleAreaOf 5 (some .int) rmX11_doubleAreaOf
theorem mX11_doubleAreaOf : Mt yX11_doubleAreaOf cX11_doubleAreaOf 5 (some .int) 2 := ⟨k1142, k12, by decide +kernel⟩
theorem vX11_doubleAreaOf : MtV yX11_doubleAreaOf 11 := ⟨k1141, kp46, by decide, (RX11, TX11, 26), rfl, rfl⟩
def PX11_doubleAreaOf_5 (E : EV) (post : Option AV → AH → Prop) (J5 : AH → Option Nat → Int32 → Int32 → Int32 → Int32 → Prop) (h : AH) (l0 : Option Nat) (l1 : Int32) (l2 : Int32) (l3 : Int32) (l4 : Int32) : Prop :=
  CV (sX11_vertices E) l0 11 [aI l1, aI l2] h (kI fun x1 h2 => (x1 ≤ l4 → post (some (aI l3)) h2) ∧ (¬ x1 ≤ l4 → CV (sX11_xOf E) l0 11 [aI l1, aI l2, aI l4] h2 (kI fun x3 h4 => CV (sX11_yOf E) l0 11 [aI l1, aI l2, aI (l4 + (1 : Int32))] h4 (kI fun x5 h6 => CV (sX11_xOf E) l0 11 [aI l1, aI l2, aI (l4 + (1 : Int32))] h6 (kI fun x7 h8 => CV (sX11_yOf E) l0 11 [aI l1, aI l2, aI l4] h8 (kI fun x9 h10 => ∀ v11, v11 = (l3 + ((x3 * x5) - (x7 * x9))) → J5 h10 l0 l1 l2 v11 (l4 + (1 : Int32))))))))
theorem bX11_doubleAreaOf_5 {E : EV} {X : AX} {post : Option AV → AH → Prop} (C : Cb E X cX11_doubleAreaOf RX11 5 rmX11_doubleAreaOf) (D : Cr E X (some .int) rmX11_doubleAreaOf "doubleAreaOf" post) {J5 : AH → Option Nat → Int32 → Int32 → Int32 → Int32 → Prop} (g5 : ∀ (h : AH) (l0 : Option Nat) (l1 : Int32) (l2 : Int32) (l3 : Int32) (l4 : Int32), J5 h l0 l1 l2 l3 l4 → Go E X 5 0 0 5 [(0, aP l0), (1, aI l1), (2, aI l2), (3, aI l3), (4, aI l4)] [] h) {h : AH} {l0 : Option Nat} {l1 : Int32} {l2 : Int32} {l3 : Int32} {l4 : Int32} (w : PX11_doubleAreaOf_5 E post J5 h l0 l1 l2 l3 l4) : Go E X 5 0 0 5 [(0, aP l0), (1, aI l1), (2, aI l2), (3, aI l3), (4, aI l4)] [] h := by
  unfold PX11_doubleAreaOf_5 at w
  refine r_iload C dX11_doubleAreaOf_5 4 rfl ?_
  refine r_aload_n C dX11_doubleAreaOf_7 rfl 0 rfl ?_
  refine r_iload_n C dX11_doubleAreaOf_8 rfl 1 rfl ?_
  refine r_iload_n C dX11_doubleAreaOf_9 rfl 2 rfl ?_
  refine r_cvI (rm' := rmX11_vertices) C mX11_vertices vX11_vertices k1072 [aI l1, aI l2] [aI l4] rfl rfl (Nat.le_of_ble_eq_true rfl) (by decide) ⟨Nat.zero_le _, Nat.zero_le _⟩ 0 0 rfl rfl dX11_doubleAreaOf_10 w (fun x1 h2 w => ?_)
  refine r_icmp_ge C dX11_doubleAreaOf_13 (tgt := 64) rfl (fun hc => ?_) (fun hc => ?_)
  · have w := w.1 hc
    refine r_iload_n C dX11_doubleAreaOf_64 rfl 3 rfl ?_
    exact r_iret C D rfl (Nat.zero_le _) (Nat.zero_le _) dX11_doubleAreaOf_65 w
  · have w := w.2 hc
    refine r_iload_n C dX11_doubleAreaOf_16 rfl 3 rfl ?_
    refine r_aload_n C dX11_doubleAreaOf_17 rfl 0 rfl ?_
    refine r_iload_n C dX11_doubleAreaOf_18 rfl 1 rfl ?_
    refine r_iload_n C dX11_doubleAreaOf_19 rfl 2 rfl ?_
    refine r_iload C dX11_doubleAreaOf_20 4 rfl ?_
    refine r_cvI (rm' := rmX11_xOf) C mX11_xOf vX11_xOf k1076 [aI l1, aI l2, aI l4] [aI l3] rfl rfl (Nat.le_of_ble_eq_true rfl) (by decide) ⟨Nat.zero_le _, Nat.zero_le _⟩ 0 0 rfl rfl dX11_doubleAreaOf_22 w (fun x3 h4 w => ?_)
    refine r_aload_n C dX11_doubleAreaOf_25 rfl 0 rfl ?_
    refine r_iload_n C dX11_doubleAreaOf_26 rfl 1 rfl ?_
    refine r_iload_n C dX11_doubleAreaOf_27 rfl 2 rfl ?_
    refine r_iload C dX11_doubleAreaOf_28 4 rfl ?_
    refine r_iconst (v := 1) C dX11_doubleAreaOf_30 rfl ?_
    refine r_iadd C dX11_doubleAreaOf_31 ?_
    refine r_cvI (rm' := rmX11_yOf) C mX11_yOf vX11_yOf k1080 [aI l1, aI l2, aI (l4 + (1 : Int32))] [aI x3, aI l3] rfl rfl (Nat.le_of_ble_eq_true rfl) (by decide) ⟨Nat.zero_le _, Nat.zero_le _⟩ 0 0 rfl rfl dX11_doubleAreaOf_32 w (fun x5 h6 w => ?_)
    refine r_imul C dX11_doubleAreaOf_35 ?_
    refine r_aload_n C dX11_doubleAreaOf_36 rfl 0 rfl ?_
    refine r_iload_n C dX11_doubleAreaOf_37 rfl 1 rfl ?_
    refine r_iload_n C dX11_doubleAreaOf_38 rfl 2 rfl ?_
    refine r_iload C dX11_doubleAreaOf_39 4 rfl ?_
    refine r_iconst (v := 1) C dX11_doubleAreaOf_41 rfl ?_
    refine r_iadd C dX11_doubleAreaOf_42 ?_
    refine r_cvI (rm' := rmX11_xOf) C mX11_xOf vX11_xOf k1076 [aI l1, aI l2, aI (l4 + (1 : Int32))] [aI (x3 * x5), aI l3] rfl rfl (Nat.le_of_ble_eq_true rfl) (by decide) ⟨Nat.zero_le _, Nat.zero_le _⟩ 0 0 rfl rfl dX11_doubleAreaOf_43 w (fun x7 h8 w => ?_)
    refine r_aload_n C dX11_doubleAreaOf_46 rfl 0 rfl ?_
    refine r_iload_n C dX11_doubleAreaOf_47 rfl 1 rfl ?_
    refine r_iload_n C dX11_doubleAreaOf_48 rfl 2 rfl ?_
    refine r_iload C dX11_doubleAreaOf_49 4 rfl ?_
    refine r_cvI (rm' := rmX11_yOf) C mX11_yOf vX11_yOf k1080 [aI l1, aI l2, aI l4] [aI x7, aI (x3 * x5), aI l3] rfl rfl (Nat.le_of_ble_eq_true rfl) (by decide) ⟨Nat.zero_le _, Nat.zero_le _⟩ 0 0 rfl rfl dX11_doubleAreaOf_51 w (fun x9 h10 w => ?_)
    refine r_imul C dX11_doubleAreaOf_54 ?_
    refine r_isub C dX11_doubleAreaOf_55 ?_
    refine r_iadd C dX11_doubleAreaOf_56 ?_
    refine r_istore_n C dX11_doubleAreaOf_57 rfl (by decide) rfl ?_
    have w := w _ rfl
    skip
    refine r_iinc C dX11_doubleAreaOf_58 4 rfl (v := 1) rfl (by decide) rfl ?_
    refine r_goto C dX11_doubleAreaOf_61 (tgt := 5) rfl ?_
    exact r_sub [2, 3, 4, 1, 0] rfl (g5 h10 l0 l1 l2 (l3 + ((x3 * x5) - (x7 * x9))) (l4 + (1 : Int32)) w)
theorem lpX11_doubleAreaOf_5 {E : EV} {X : AX} {post : Option AV → AH → Prop} (C : Cb E X cX11_doubleAreaOf RX11 5 rmX11_doubleAreaOf) (D : Cr E X (some .int) rmX11_doubleAreaOf "doubleAreaOf" post) (I : Nat → AH → Option Nat → Int32 → Int32 → Int32 → Int32 → Prop) (step : ∀ (z : Nat) (h : AH) (l0 : Option Nat) (l1 : Int32) (l2 : Int32) (l3 : Int32) (l4 : Int32), I z h l0 l1 l2 l3 l4 → PX11_doubleAreaOf_5 E post (fun h l0 l1 l2 l3 l4 => ∃ z', z' < z ∧ I z' h l0 l1 l2 l3 l4) h l0 l1 l2 l3 l4) : ∀ (z : Nat) (h : AH) (l0 : Option Nat) (l1 : Int32) (l2 : Int32) (l3 : Int32) (l4 : Int32), I z h l0 l1 l2 l3 l4 → Go E X 5 0 0 5 [(0, aP l0), (1, aI l1), (2, aI l2), (3, aI l3), (4, aI l4)] [] h := by
  intro z
  induction z using Nat.strongRecOn with
  | _ z ih =>
    intro h l0 l1 l2 l3 l4 hI
    exact bX11_doubleAreaOf_5 C D (fun h l0 l1 l2 l3 l4 hJ => by obtain ⟨z', hz, hi⟩ := hJ; exact ih z' hz h l0 l1 l2 l3 l4 hi) (step z h l0 l1 l2 l3 l4 hI)
def PX11_doubleAreaOf_0 (E : EV) (post : Option AV → AH → Prop) (J5 : AH → Option Nat → Int32 → Int32 → Int32 → Int32 → Prop) (h : AH) (l0 : Option Nat) (l1 : Int32) (l2 : Int32) : Prop :=
  J5 h l0 l1 l2 (0 : Int32) (0 : Int32)
theorem bX11_doubleAreaOf_0 {E : EV} {X : AX} {post : Option AV → AH → Prop} (C : Cb E X cX11_doubleAreaOf RX11 5 rmX11_doubleAreaOf) (D : Cr E X (some .int) rmX11_doubleAreaOf "doubleAreaOf" post) {J5 : AH → Option Nat → Int32 → Int32 → Int32 → Int32 → Prop} (g5 : ∀ (h : AH) (l0 : Option Nat) (l1 : Int32) (l2 : Int32) (l3 : Int32) (l4 : Int32), J5 h l0 l1 l2 l3 l4 → Go E X 5 0 0 5 [(0, aP l0), (1, aI l1), (2, aI l2), (3, aI l3), (4, aI l4)] [] h) {h : AH} {l0 : Option Nat} {l1 : Int32} {l2 : Int32} (w : PX11_doubleAreaOf_0 E post J5 h l0 l1 l2) : Go E X 5 0 0 0 [(0, aP l0), (1, aI l1), (2, aI l2)] [] h := by
  unfold PX11_doubleAreaOf_0 at w
  refine r_iconst (v := 0) C dX11_doubleAreaOf_0 rfl ?_
  refine r_istore_n C dX11_doubleAreaOf_1 rfl (by decide) rfl ?_
  refine r_iconst (v := 0) C dX11_doubleAreaOf_2 rfl ?_
  refine r_istore C dX11_doubleAreaOf_3 (by decide) rfl ?_
  exact r_sub [2, 3, 4, 1, 0] rfl (g5 h l0 l1 l2 (0 : Int32) (0 : Int32) w)
theorem eX11_doubleAreaOf {E : EV} {post : Option AV → AH → Prop} {h : AH} {l0 : Option Nat} {l1 : Int32} {l2 : Int32} {J5 : AH → Option Nat → Int32 → Int32 → Int32 → Int32 → Prop} (g5 : ∀ X : AX, Cb E X cX11_doubleAreaOf RX11 5 rmX11_doubleAreaOf → Cr E X (some .int) rmX11_doubleAreaOf "doubleAreaOf" post → ∀ (h : AH) (l0 : Option Nat) (l1 : Int32) (l2 : Int32) (l3 : Int32) (l4 : Int32), J5 h l0 l1 l2 l3 l4 → Go E X 5 0 0 5 [(0, aP l0), (1, aI l1), (2, aI l2), (3, aI l3), (4, aI l4)] [] h) (w : PX11_doubleAreaOf_0 E post J5 h l0 l1 l2) : sX11_doubleAreaOf E [aP l0, aI l1, aI l2] h post := Spec.of RX11 rfl rfl (Nat.le_of_ble_eq_true rfl) fun X C D => bX11_doubleAreaOf_0 C D (g5 X C D) w
theorem dX11_doubleArea_0 : decode cX11_doubleArea 0 = .ok (.aload_n 0, 1) := by decide +kernel
theorem dX11_doubleArea_1 : decode cX11_doubleArea 1 = .ok (.iload_n 1, 1) := by decide +kernel
theorem dX11_doubleArea_2 : decode cX11_doubleArea 2 = .ok (.iload_n 2, 1) := by decide +kernel
theorem dX11_doubleArea_3 : decode cX11_doubleArea 3 = .ok (.invokevirtual 201, 3) := by decide +kernel
theorem dX11_doubleArea_6 : decode cX11_doubleArea 6 = .ok (.ifCond .eq 15, 3) := by decide +kernel
theorem dX11_doubleArea_9 : decode cX11_doubleArea 9 = .ok (.aload_n 0, 1) := by decide +kernel
theorem dX11_doubleArea_10 : decode cX11_doubleArea 10 = .ok (.iload_n 1, 1) := by decide +kernel
theorem dX11_doubleArea_11 : decode cX11_doubleArea 11 = .ok (.invokestatic 50, 3) := by decide +kernel
theorem dX11_doubleArea_14 : decode cX11_doubleArea 14 = .ok (.iload_n 2, 1) := by decide +kernel
theorem dX11_doubleArea_15 : decode cX11_doubleArea 15 = .ok (.invokevirtual 205, 3) := by decide +kernel
theorem dX11_doubleArea_18 : decode cX11_doubleArea 18 = .ok (.goto 5, 3) := by decide +kernel
theorem dX11_doubleArea_21 : decode cX11_doubleArea 21 = .ok (.ldc 145, 2) := by decide +kernel
theorem dX11_doubleArea_23 : decode cX11_doubleArea 23 = .ok (.ireturn, 1) := by decide +kernel
abbrev rmX11_doubleArea : Room := { frames := 3, cells := 0, slots := 0, locals := 120 }
abbrev sX11_doubleArea (E : EV) : List AV → AH → (Option AV → AH → Prop) → Prop := Spec E yX11_doubleArea cX11_doubleArea 3 (some .int) rmX11_doubleArea
theorem mX11_doubleArea : Mt yX11_doubleArea cX11_doubleArea 3 (some .int) 2 := ⟨k1134, k12, by decide +kernel⟩
theorem vX11_doubleArea : MtV yX11_doubleArea 11 := ⟨k1132, k1133, by decide, (RX11, TX11, 26), rfl, rfl⟩
def PX11_doubleArea_0 (E : EV) (post : Option AV → AH → Prop) (h : AH) (l0 : Option Nat) (l1 : Int32) (l2 : Int32) : Prop :=
  CV (sX11_hasPiece E) l0 11 [aI l1, aI l2] h (kI fun x1 h2 => (x1 = 0 → post (some (aI (-1000001 : Int32))) h2) ∧ (¬ x1 = 0 → CS (sX11_slotAt E) [aI l1] h2 (kI fun x3 h4 => CV (sX11_doubleAreaOf E) l0 11 [aI x3, aI l2] h4 (kI fun x5 h6 => post (some (aI x5)) h6))))
theorem bX11_doubleArea_0 {E : EV} {X : AX} {post : Option AV → AH → Prop} (C : Cb E X cX11_doubleArea RX11 3 rmX11_doubleArea) (D : Cr E X (some .int) rmX11_doubleArea "doubleArea" post) {h : AH} {l0 : Option Nat} {l1 : Int32} {l2 : Int32} (w : PX11_doubleArea_0 E post h l0 l1 l2) : Go E X 3 0 0 0 [(0, aP l0), (1, aI l1), (2, aI l2)] [] h := by
  unfold PX11_doubleArea_0 at w
  refine r_aload_n C dX11_doubleArea_0 rfl 0 rfl ?_
  refine r_iload_n C dX11_doubleArea_1 rfl 1 rfl ?_
  refine r_iload_n C dX11_doubleArea_2 rfl 2 rfl ?_
  refine r_cvI (rm' := rmX11_hasPiece) C mX11_hasPiece vX11_hasPiece k1135 [aI l1, aI l2] [] rfl rfl (Nat.le_of_ble_eq_true rfl) (by decide) ⟨Nat.zero_le _, Nat.zero_le _⟩ 0 0 rfl rfl dX11_doubleArea_3 w (fun x1 h2 w => ?_)
  refine r_if_eq C dX11_doubleArea_6 (tgt := 21) rfl (fun hc => ?_) (fun hc => ?_)
  · have w := w.1 hc
    refine r_ldc (v := -1000001) C dX11_doubleArea_21 k1039 ?_
    exact r_iret C D rfl (Nat.zero_le _) (Nat.zero_le _) dX11_doubleArea_23 w
  · have w := w.2 hc
    refine r_aload_n C dX11_doubleArea_9 rfl 0 rfl ?_
    refine r_iload_n C dX11_doubleArea_10 rfl 1 rfl ?_
    refine r_csI (rm' := rmX11_slotAt) C mX11_slotAt vX11_slotAt k1100 [aI l1] [aP l0] rfl rfl (Nat.le_of_ble_eq_true rfl) (by decide) ⟨Nat.zero_le _, Nat.zero_le _⟩ 0 0 rfl rfl dX11_doubleArea_11 w (fun x3 h4 w => ?_)
    refine r_iload_n C dX11_doubleArea_14 rfl 2 rfl ?_
    refine r_cvI (rm' := rmX11_doubleAreaOf) C mX11_doubleAreaOf vX11_doubleAreaOf k1139 [aI x3, aI l2] [] rfl rfl (Nat.le_of_ble_eq_true rfl) (by decide) ⟨Nat.zero_le _, Nat.zero_le _⟩ 0 0 rfl rfl dX11_doubleArea_15 w (fun x5 h6 w => ?_)
    refine r_goto C dX11_doubleArea_18 (tgt := 23) rfl ?_
    exact r_iret C D rfl (Nat.zero_le _) (Nat.zero_le _) dX11_doubleArea_23 w
theorem eX11_doubleArea {E : EV} {post : Option AV → AH → Prop} {h : AH} {l0 : Option Nat} {l1 : Int32} {l2 : Int32} (w : PX11_doubleArea_0 E post h l0 l1 l2) : sX11_doubleArea E [aP l0, aI l1, aI l2] h post := Spec.of RX11 rfl rfl (Nat.le_of_ble_eq_true rfl) fun X C D => bX11_doubleArea_0 C D w
theorem dX11_isItem_0 : decode cX11_isItem 0 = .ok (.iload_n 1, 1) := by decide +kernel
theorem dX11_isItem_1 : decode cX11_isItem 1 = .ok (.iconst 0, 1) := by decide +kernel
theorem dX11_isItem_2 : decode cX11_isItem 2 = .ok (.aload_n 0, 1) := by decide +kernel
theorem dX11_isItem_3 : decode cX11_isItem 3 = .ok (.getfield 7, 3) := by decide +kernel
theorem dX11_isItem_6 : decode cX11_isItem 6 = .ok (.iconst 3, 1) := by decide +kernel
theorem dX11_isItem_7 : decode cX11_isItem 7 = .ok (.iaload, 1) := by decide +kernel
theorem dX11_isItem_8 : decode cX11_isItem 8 = .ok (.iconst 1, 1) := by decide +kernel
theorem dX11_isItem_9 : decode cX11_isItem 9 = .ok (.isub, 1) := by decide +kernel
theorem dX11_isItem_10 : decode cX11_isItem 10 = .ok (.invokestatic 46, 3) := by decide +kernel
theorem dX11_isItem_13 : decode cX11_isItem 13 = .ok (.ireturn, 1) := by decide +kernel
abbrev rmX11_isItem : Room := { frames := 1, cells := 0, slots := 0, locals := 40 }
abbrev sX11_isItem (E : EV) : List AV → AH → (Option AV → AH → Prop) → Prop := Spec E yX11_isItem cX11_isItem 2 (some .boolean) rmX11_isItem
theorem mX11_isItem : Mt yX11_isItem cX11_isItem 2 (some .boolean) 1 := ⟨k1352, k12, by decide +kernel⟩
theorem vX11_isItem : MtV yX11_isItem 11 := ⟨k1351, kp76, by decide, (RX11, TX11, 26), rfl, rfl⟩
def PX11_isItem_0 (E : EV) (post : Option AV → AH → Prop) (h : AH) (l0 : Option Nat) (l1 : Int32) : Prop :=
  rdP h l0 11 0 fun x1 => aldI h x1 0 (3 : Int32) fun x2 => CS (sX11_in E) [aI l1, aI (0 : Int32), aI (x2 - (1 : Int32))] h (kI fun x3 h4 => (x3 = 0 ∨ x3 = 1) ∧ post (some (aI x3)) h4)
theorem bX11_isItem_0 {E : EV} {X : AX} {post : Option AV → AH → Prop} (C : Cb E X cX11_isItem RX11 2 rmX11_isItem) (D : Cr E X (some .boolean) rmX11_isItem "isItem" post) {h : AH} {l0 : Option Nat} {l1 : Int32} (w : PX11_isItem_0 E post h l0 l1) : Go E X 2 0 0 0 [(0, aP l0), (1, aI l1)] [] h := by
  unfold PX11_isItem_0 at w
  refine r_iload_n C dX11_isItem_0 rfl 1 rfl ?_
  refine r_iconst (v := 0) C dX11_isItem_1 rfl ?_
  refine r_aload_n C dX11_isItem_2 rfl 0 rfl ?_
  refine r_getP C fcX11 (f := 0) (by decide) rfl k943 dX11_isItem_3 (w.mono fun x1 w => ?_)
  refine r_iconst (v := 3) C dX11_isItem_6 rfl ?_
  refine r_iald C dX11_isItem_7 (w.mono fun x2 w => ?_)
  refine r_iconst (v := 1) C dX11_isItem_8 rfl ?_
  refine r_isub C dX11_isItem_9 ?_
  refine r_csI (rm' := rmX11_in) C mX11_in vX11_in k1036 [aI l1, aI (0 : Int32), aI (x2 - (1 : Int32))] [] rfl rfl (Nat.le_of_ble_eq_true rfl) (by decide) ⟨Nat.zero_le _, Nat.zero_le _⟩ 0 0 rfl rfl dX11_isItem_10 w (fun x3 h4 w => ?_)
  exact r_zret C D rfl w.1 (Nat.zero_le _) (Nat.zero_le _) dX11_isItem_13 w.2
theorem eX11_isItem {E : EV} {post : Option AV → AH → Prop} {h : AH} {l0 : Option Nat} {l1 : Int32} (w : PX11_isItem_0 E post h l0 l1) : sX11_isItem E [aP l0, aI l1] h post := Spec.of RX11 rfl rfl (Nat.le_of_ble_eq_true rfl) fun X C D => bX11_isItem_0 C D w
theorem dX11_escapes_0 : decode cX11_escapes 0 = .ok (.aload_n 0, 1) := by decide +kernel
theorem dX11_escapes_1 : decode cX11_escapes 1 = .ok (.iload_n 1, 1) := by decide +kernel
theorem dX11_escapes_2 : decode cX11_escapes 2 = .ok (.invokevirtual 298, 3) := by decide +kernel
theorem dX11_escapes_5 : decode cX11_escapes 5 = .ok (.ifCond .eq 13, 3) := by decide +kernel
theorem dX11_escapes_8 : decode cX11_escapes 8 = .ok (.iload_n 2, 1) := by decide +kernel
theorem dX11_escapes_9 : decode cX11_escapes 9 = .ok (.iconst 0, 1) := by decide +kernel
theorem dX11_escapes_10 : decode cX11_escapes 10 = .ok (.bipush 7, 2) := by decide +kernel
theorem dX11_escapes_12 : decode cX11_escapes 12 = .ok (.invokestatic 46, 3) := by decide +kernel
theorem dX11_escapes_15 : decode cX11_escapes 15 = .ok (.ifCond .ne 6, 3) := by decide +kernel
theorem dX11_escapes_18 : decode cX11_escapes 18 = .ok (.ldc 145, 2) := by decide +kernel
theorem dX11_escapes_20 : decode cX11_escapes 20 = .ok (.ireturn, 1) := by decide +kernel
theorem dX11_escapes_21 : decode cX11_escapes 21 = .ok (.aload_n 0, 1) := by decide +kernel
theorem dX11_escapes_22 : decode cX11_escapes 22 = .ok (.iload_n 1, 1) := by decide +kernel
theorem dX11_escapes_23 : decode cX11_escapes 23 = .ok (.iload_n 2, 1) := by decide +kernel
theorem dX11_escapes_24 : decode cX11_escapes 24 = .ok (.sipush 255, 3) := by decide +kernel
theorem dX11_escapes_27 : decode cX11_escapes 27 = .ok (.invokevirtual 313, 3) := by decide +kernel
theorem dX11_escapes_30 : decode cX11_escapes 30 = .ok (.ifCond .eq 7, 3) := by decide +kernel
theorem dX11_escapes_33 : decode cX11_escapes 33 = .ok (.iconst 1, 1) := by decide +kernel
theorem dX11_escapes_34 : decode cX11_escapes 34 = .ok (.goto 4, 3) := by decide +kernel
theorem dX11_escapes_37 : decode cX11_escapes 37 = .ok (.iconst 0, 1) := by decide +kernel
theorem dX11_escapes_38 : decode cX11_escapes 38 = .ok (.ireturn, 1) := by decide +kernel
abbrev rmX11_escapes : Room := { frames := 6, cells := 0, slots := 0, locals := 240 }
abbrev sX11_escapes (E : EV) : List AV → AH → (Option AV → AH → Prop) → Prop := Spec E yX11_escapes cX11_escapes 3 (some .int) rmX11_escapes
theorem mX11_escapes : Mt yX11_escapes cX11_escapes 3 (some .int) 2 := ⟨k1404, k12, by decide +kernel⟩
theorem vX11_escapes : MtV yX11_escapes 11 := ⟨k1402, k1403, by decide, (RX11, TX11, 26), rfl, rfl⟩
def PX11_escapes_0 (E : EV) (post : Option AV → AH → Prop) (h : AH) (l0 : Option Nat) (l1 : Int32) (l2 : Int32) : Prop :=
  CV (sX11_isItem E) l0 11 [aI l1] h (kI fun x1 h2 => (x1 = 0 → post (some (aI (-1000001 : Int32))) h2) ∧ (¬ x1 = 0 → CS (sX11_in E) [aI l2, aI (0 : Int32), aI (7 : Int32)] h2 (kI fun x3 h4 => (¬ x3 = 0 → CV (sX11_comesOut E) l0 11 [aI l1, aI l2, aI (255 : Int32)] h4 (kI fun x5 h6 => (x5 = 0 → post (some (aI (0 : Int32))) h6) ∧ (¬ x5 = 0 → post (some (aI (1 : Int32))) h6))) ∧ (x3 = 0 → post (some (aI (-1000001 : Int32))) h4))))
theorem bX11_escapes_0 {E : EV} {X : AX} {post : Option AV → AH → Prop} (C : Cb E X cX11_escapes RX11 3 rmX11_escapes) (D : Cr E X (some .int) rmX11_escapes "escapes" post) {h : AH} {l0 : Option Nat} {l1 : Int32} {l2 : Int32} (w : PX11_escapes_0 E post h l0 l1 l2) : Go E X 3 0 0 0 [(0, aP l0), (1, aI l1), (2, aI l2)] [] h := by
  unfold PX11_escapes_0 at w
  refine r_aload_n C dX11_escapes_0 rfl 0 rfl ?_
  refine r_iload_n C dX11_escapes_1 rfl 1 rfl ?_
  refine r_cvI (rm' := rmX11_isItem) C mX11_isItem vX11_isItem k1349 [aI l1] [] rfl rfl (Nat.le_of_ble_eq_true rfl) (by decide) ⟨Nat.zero_le _, Nat.zero_le _⟩ 0 0 rfl rfl dX11_escapes_2 w (fun x1 h2 w => ?_)
  refine r_if_eq C dX11_escapes_5 (tgt := 18) rfl (fun hc => ?_) (fun hc => ?_)
  · have w := w.1 hc
    refine r_ldc (v := -1000001) C dX11_escapes_18 k1039 ?_
    exact r_iret C D rfl (Nat.zero_le _) (Nat.zero_le _) dX11_escapes_20 w
  · have w := w.2 hc
    refine r_iload_n C dX11_escapes_8 rfl 2 rfl ?_
    refine r_iconst (v := 0) C dX11_escapes_9 rfl ?_
    refine r_bipush (v := 7) C dX11_escapes_10 rfl ?_
    refine r_csI (rm' := rmX11_in) C mX11_in vX11_in k1036 [aI l2, aI (0 : Int32), aI (7 : Int32)] [] rfl rfl (Nat.le_of_ble_eq_true rfl) (by decide) ⟨Nat.zero_le _, Nat.zero_le _⟩ 0 0 rfl rfl dX11_escapes_12 w (fun x3 h4 w => ?_)
    refine r_if_ne C dX11_escapes_15 (tgt := 21) rfl (fun hc => ?_) (fun hc => ?_)
    · have w := w.1 hc
      refine r_aload_n C dX11_escapes_21 rfl 0 rfl ?_
      refine r_iload_n C dX11_escapes_22 rfl 1 rfl ?_
      refine r_iload_n C dX11_escapes_23 rfl 2 rfl ?_
      refine r_sipush (v := 255) C dX11_escapes_24 rfl ?_
      refine r_cvI (rm' := rmX11_comesOut) C mX11_comesOut vX11_comesOut k1405 [aI l1, aI l2, aI (255 : Int32)] [] rfl rfl (Nat.le_of_ble_eq_true rfl) (by decide) ⟨Nat.zero_le _, Nat.zero_le _⟩ 0 0 rfl rfl dX11_escapes_27 w (fun x5 h6 w => ?_)
      refine r_if_eq C dX11_escapes_30 (tgt := 37) rfl (fun hc => ?_) (fun hc => ?_)
      · have w := w.1 hc
        refine r_iconst (v := 0) C dX11_escapes_37 rfl ?_
        exact r_iret C D rfl (Nat.zero_le _) (Nat.zero_le _) dX11_escapes_38 w
      · have w := w.2 hc
        refine r_iconst (v := 1) C dX11_escapes_33 rfl ?_
        refine r_goto C dX11_escapes_34 (tgt := 38) rfl ?_
        exact r_iret C D rfl (Nat.zero_le _) (Nat.zero_le _) dX11_escapes_38 w
    · have w := w.2 hc
      refine r_ldc (v := -1000001) C dX11_escapes_18 k1039 ?_
      exact r_iret C D rfl (Nat.zero_le _) (Nat.zero_le _) dX11_escapes_20 w
theorem eX11_escapes {E : EV} {post : Option AV → AH → Prop} {h : AH} {l0 : Option Nat} {l1 : Int32} {l2 : Int32} (w : PX11_escapes_0 E post h l0 l1 l2) : sX11_escapes E [aP l0, aI l1, aI l2] h post := Spec.of RX11 rfl rfl (Nat.le_of_ble_eq_true rfl) fun X C D => bX11_escapes_0 C D w
theorem dX11_exchanges_0 : decode cX11_exchanges 0 = .ok (.iconst 0, 1) := by decide +kernel
theorem dX11_exchanges_1 : decode cX11_exchanges 1 = .ok (.istore_n 1, 1) := by decide +kernel
theorem dX11_exchanges_2 : decode cX11_exchanges 2 = .ok (.iload_n 1, 1) := by decide +kernel
theorem dX11_exchanges_3 : decode cX11_exchanges 3 = .ok (.sipush 500, 3) := by decide +kernel
theorem dX11_exchanges_6 : decode cX11_exchanges 6 = .ok (.if_icmp .ge 35, 3) := by decide +kernel
theorem dX11_exchanges_9 : decode cX11_exchanges 9 = .ok (.aload_n 0, 1) := by decide +kernel
theorem dX11_exchanges_10 : decode cX11_exchanges 10 = .ok (.getfield 7, 3) := by decide +kernel
theorem dX11_exchanges_13 : decode cX11_exchanges 13 = .ok (.iload_n 1, 1) := by decide +kernel
theorem dX11_exchanges_14 : decode cX11_exchanges 14 = .ok (.iaload, 1) := by decide +kernel
theorem dX11_exchanges_15 : decode cX11_exchanges 15 = .ok (.istore_n 2, 1) := by decide +kernel
theorem dX11_exchanges_16 : decode cX11_exchanges 16 = .ok (.aload_n 0, 1) := by decide +kernel
theorem dX11_exchanges_17 : decode cX11_exchanges 17 = .ok (.getfield 7, 3) := by decide +kernel
theorem dX11_exchanges_20 : decode cX11_exchanges 20 = .ok (.iload_n 1, 1) := by decide +kernel
theorem dX11_exchanges_21 : decode cX11_exchanges 21 = .ok (.aload_n 0, 1) := by decide +kernel
theorem dX11_exchanges_22 : decode cX11_exchanges 22 = .ok (.getfield 35, 3) := by decide +kernel
theorem dX11_exchanges_25 : decode cX11_exchanges 25 = .ok (.iload_n 1, 1) := by decide +kernel
theorem dX11_exchanges_26 : decode cX11_exchanges 26 = .ok (.iaload, 1) := by decide +kernel
theorem dX11_exchanges_27 : decode cX11_exchanges 27 = .ok (.iastore, 1) := by decide +kernel
theorem dX11_exchanges_28 : decode cX11_exchanges 28 = .ok (.aload_n 0, 1) := by decide +kernel
theorem dX11_exchanges_29 : decode cX11_exchanges 29 = .ok (.getfield 35, 3) := by decide +kernel
theorem dX11_exchanges_32 : decode cX11_exchanges 32 = .ok (.iload_n 1, 1) := by decide +kernel
theorem dX11_exchanges_33 : decode cX11_exchanges 33 = .ok (.iload_n 2, 1) := by decide +kernel
theorem dX11_exchanges_34 : decode cX11_exchanges 34 = .ok (.iastore, 1) := by decide +kernel
theorem dX11_exchanges_35 : decode cX11_exchanges 35 = .ok (.iinc 1 1, 3) := by decide +kernel
theorem dX11_exchanges_38 : decode cX11_exchanges 38 = .ok (.goto (-36), 3) := by decide +kernel
theorem dX11_exchanges_41 : decode cX11_exchanges 41 = .ok (.return_, 1) := by decide +kernel
abbrev rmX11_exchanges : Room := { frames := 0, cells := 0, slots := 0, locals := 0 }
abbrev sX11_exchanges (E : EV) : List AV → AH → (Option AV → AH → Prop) → Prop := Spec E yX11_exchanges cX11_exchanges 3 none rmX11_exchanges
theorem mX11_exchanges : Mt yX11_exchanges cX11_exchanges 3 none 0 := ⟨k1344, k12, by decide +kernel⟩
theorem vX11_exchanges : MtV yX11_exchanges 11 := ⟨k1343, kp75, by decide, (RX11, TX11, 26), rfl, rfl⟩
def PX11_exchanges_2 (E : EV) (post : Option AV → AH → Prop) (J2 : AH → Option Nat → Int32 → Prop) (h : AH) (l0 : Option Nat) (l1 : Int32) : Prop :=
  ((500 : Int32) ≤ l1 → post none h) ∧ (¬ (500 : Int32) ≤ l1 → rdP h l0 11 0 fun x1 => aldI h x1 0 l1 fun x2 => rdP h l0 11 0 fun x4 => rdP h l0 11 25 fun x5 => aldI h x5 0 l1 fun x6 => astI h x4 0 l1 x6 fun h7 => rdP h7 l0 11 25 fun x8 => astI h7 x8 0 l1 x2 fun h9 => J2 h9 l0 (l1 + (1 : Int32)))
theorem bX11_exchanges_2 {E : EV} {X : AX} {post : Option AV → AH → Prop} (C : Cb E X cX11_exchanges RX11 3 rmX11_exchanges) (D : Cr E X none rmX11_exchanges "exchanges" post) {J2 : AH → Option Nat → Int32 → Prop} (g2 : ∀ (h : AH) (l0 : Option Nat) (l1 : Int32), J2 h l0 l1 → Go E X 3 0 0 2 [(0, aP l0), (1, aI l1)] [] h) {h : AH} {l0 : Option Nat} {l1 : Int32} (w : PX11_exchanges_2 E post J2 h l0 l1) : Go E X 3 0 0 2 [(0, aP l0), (1, aI l1)] [] h := by
  unfold PX11_exchanges_2 at w
  refine r_iload_n C dX11_exchanges_2 rfl 1 rfl ?_
  refine r_sipush (v := 500) C dX11_exchanges_3 rfl ?_
  refine r_icmp_ge C dX11_exchanges_6 (tgt := 41) rfl (fun hc => ?_) (fun hc => ?_)
  · have w := w.1 hc
    exact r_vret C D rfl (Nat.zero_le _) (Nat.zero_le _) dX11_exchanges_41 w
  · have w := w.2 hc
    refine r_aload_n C dX11_exchanges_9 rfl 0 rfl ?_
    refine r_getP C fcX11 (f := 0) (by decide) rfl k943 dX11_exchanges_10 (w.mono fun x1 w => ?_)
    refine r_iload_n C dX11_exchanges_13 rfl 1 rfl ?_
    refine r_iald C dX11_exchanges_14 (w.mono fun x2 w => ?_)
    refine r_istore_n C dX11_exchanges_15 rfl (by decide) rfl ?_
    refine r_aload_n C dX11_exchanges_16 rfl 1 rfl ?_
    refine r_getP C fcX11 (f := 0) (by decide) rfl k943 dX11_exchanges_17 (w.mono fun x4 w => ?_)
    refine r_iload_n C dX11_exchanges_20 rfl 2 rfl ?_
    refine r_aload_n C dX11_exchanges_21 rfl 1 rfl ?_
    refine r_getP C fcX11 (f := 25) (by decide) rfl k968 dX11_exchanges_22 (w.mono fun x5 w => ?_)
    refine r_iload_n C dX11_exchanges_25 rfl 2 rfl ?_
    refine r_iald C dX11_exchanges_26 (w.mono fun x6 w => ?_)
    refine r_iast C dX11_exchanges_27 (w.mono fun h7 w => ?_)
    refine r_aload_n C dX11_exchanges_28 rfl 1 rfl ?_
    refine r_getP C fcX11 (f := 25) (by decide) rfl k968 dX11_exchanges_29 (w.mono fun x8 w => ?_)
    refine r_iload_n C dX11_exchanges_32 rfl 2 rfl ?_
    refine r_iload_n C dX11_exchanges_33 rfl 0 rfl ?_
    refine r_iast C dX11_exchanges_34 (w.mono fun h9 w => ?_)
    refine r_iinc C dX11_exchanges_35 2 rfl (v := 1) rfl (by decide) rfl ?_
    refine r_goto C dX11_exchanges_38 (tgt := 2) rfl ?_
    exact r_sub [2, 0] rfl (g2 h9 l0 (l1 + (1 : Int32)) w)
theorem lpX11_exchanges_2 {E : EV} {X : AX} {post : Option AV → AH → Prop} (C : Cb E X cX11_exchanges RX11 3 rmX11_exchanges) (D : Cr E X none rmX11_exchanges "exchanges" post) (I : Nat → AH → Option Nat → Int32 → Prop) (step : ∀ (z : Nat) (h : AH) (l0 : Option Nat) (l1 : Int32), I z h l0 l1 → PX11_exchanges_2 E post (fun h l0 l1 => ∃ z', z' < z ∧ I z' h l0 l1) h l0 l1) : ∀ (z : Nat) (h : AH) (l0 : Option Nat) (l1 : Int32), I z h l0 l1 → Go E X 3 0 0 2 [(0, aP l0), (1, aI l1)] [] h := by
  intro z
  induction z using Nat.strongRecOn with
  | _ z ih =>
    intro h l0 l1 hI
    exact bX11_exchanges_2 C D (fun h l0 l1 hJ => by obtain ⟨z', hz, hi⟩ := hJ; exact ih z' hz h l0 l1 hi) (step z h l0 l1 hI)
def PX11_exchanges_0 (E : EV) (post : Option AV → AH → Prop) (J2 : AH → Option Nat → Int32 → Prop) (h : AH) (l0 : Option Nat) : Prop :=
  J2 h l0 (0 : Int32)
theorem bX11_exchanges_0 {E : EV} {X : AX} {post : Option AV → AH → Prop} (C : Cb E X cX11_exchanges RX11 3 rmX11_exchanges) (D : Cr E X none rmX11_exchanges "exchanges" post) {J2 : AH → Option Nat → Int32 → Prop} (g2 : ∀ (h : AH) (l0 : Option Nat) (l1 : Int32), J2 h l0 l1 → Go E X 3 0 0 2 [(0, aP l0), (1, aI l1)] [] h) {h : AH} {l0 : Option Nat} (w : PX11_exchanges_0 E post J2 h l0) : Go E X 3 0 0 0 [(0, aP l0)] [] h := by
  unfold PX11_exchanges_0 at w
  refine r_iconst (v := 0) C dX11_exchanges_0 rfl ?_
  refine r_istore_n C dX11_exchanges_1 rfl (by decide) rfl ?_
  exact r_sub [1, 0] rfl (g2 h l0 (0 : Int32) w)
theorem eX11_exchanges {E : EV} {post : Option AV → AH → Prop} {h : AH} {l0 : Option Nat} {J2 : AH → Option Nat → Int32 → Prop} (g2 : ∀ X : AX, Cb E X cX11_exchanges RX11 3 rmX11_exchanges → Cr E X none rmX11_exchanges "exchanges" post → ∀ (h : AH) (l0 : Option Nat) (l1 : Int32), J2 h l0 l1 → Go E X 3 0 0 2 [(0, aP l0), (1, aI l1)] [] h) (w : PX11_exchanges_0 E post J2 h l0) : sX11_exchanges E [aP l0] h post := Spec.of RX11 rfl rfl (Nat.le_of_ble_eq_true rfl) fun X C D => bX11_exchanges_0 C D (g2 X C D) w
theorem dX11_extent_0 : decode cX11_extent 0 = .ok (.iload_n 1, 1) := by decide +kernel
theorem dX11_extent_1 : decode cX11_extent 1 = .ok (.invokestatic 182, 3) := by decide +kernel
theorem dX11_extent_4 : decode cX11_extent 4 = .ok (.ifCond .eq 13, 3) := by decide +kernel
theorem dX11_extent_7 : decode cX11_extent 7 = .ok (.iload_n 2, 1) := by decide +kernel
theorem dX11_extent_8 : decode cX11_extent 8 = .ok (.iconst 0, 1) := by decide +kernel
theorem dX11_extent_9 : decode cX11_extent 9 = .ok (.bipush 7, 2) := by decide +kernel
theorem dX11_extent_11 : decode cX11_extent 11 = .ok (.invokestatic 46, 3) := by decide +kernel
theorem dX11_extent_14 : decode cX11_extent 14 = .ok (.ifCond .ne 6, 3) := by decide +kernel
theorem dX11_extent_17 : decode cX11_extent 17 = .ok (.ldc 145, 2) := by decide +kernel
theorem dX11_extent_19 : decode cX11_extent 19 = .ok (.ireturn, 1) := by decide +kernel
theorem dX11_extent_20 : decode cX11_extent 20 = .ok (.aload_n 0, 1) := by decide +kernel
theorem dX11_extent_21 : decode cX11_extent 21 = .ok (.iload_n 1, 1) := by decide +kernel
theorem dX11_extent_22 : decode cX11_extent 22 = .ok (.invokevirtual 195, 3) := by decide +kernel
theorem dX11_extent_25 : decode cX11_extent 25 = .ok (.ifCond .eq 8, 3) := by decide +kernel
theorem dX11_extent_28 : decode cX11_extent 28 = .ok (.ldc 42, 2) := by decide +kernel
theorem dX11_extent_30 : decode cX11_extent 30 = .ok (.goto 19, 3) := by decide +kernel
theorem dX11_extent_33 : decode cX11_extent 33 = .ok (.aload_n 0, 1) := by decide +kernel
theorem dX11_extent_34 : decode cX11_extent 34 = .ok (.iload_n 1, 1) := by decide +kernel
theorem dX11_extent_35 : decode cX11_extent 35 = .ok (.invokestatic 50, 3) := by decide +kernel
theorem dX11_extent_38 : decode cX11_extent 38 = .ok (.iload_n 2, 1) := by decide +kernel
theorem dX11_extent_39 : decode cX11_extent 39 = .ok (.invokestatic 73, 3) := by decide +kernel
theorem dX11_extent_42 : decode cX11_extent 42 = .ok (.iload_n 2, 1) := by decide +kernel
theorem dX11_extent_43 : decode cX11_extent 43 = .ok (.invokestatic 79, 3) := by decide +kernel
theorem dX11_extent_46 : decode cX11_extent 46 = .ok (.invokevirtual 227, 3) := by decide +kernel
theorem dX11_extent_49 : decode cX11_extent 49 = .ok (.ireturn, 1) := by decide +kernel
abbrev rmX11_extent : Room := { frames := 3, cells := 0, slots := 0, locals := 120 }
abbrev sX11_extent (E : EV) : List AV → AH → (Option AV → AH → Prop) → Prop := Spec E yX11_extent cX11_extent 3 (some .int) rmX11_extent
theorem mX11_extent : Mt yX11_extent cX11_extent 3 (some .int) 2 := ⟨k1174, k12, by decide +kernel⟩
theorem vX11_extent : MtV yX11_extent 11 := ⟨k1172, k1173, by decide, (RX11, TX11, 26), rfl, rfl⟩
def PX11_extent_0 (E : EV) (post : Option AV → AH → Prop) (h : AH) (l0 : Option Nat) (l1 : Int32) (l2 : Int32) : Prop :=
  CS (sX11_isSlot E) [aI l1] h (kI fun x1 h2 => (x1 = 0 → post (some (aI (-1000001 : Int32))) h2) ∧ (¬ x1 = 0 → CS (sX11_in E) [aI l2, aI (0 : Int32), aI (7 : Int32)] h2 (kI fun x3 h4 => (¬ x3 = 0 → CV (sX11_isEmpty E) l0 11 [aI l1] h4 (kI fun x5 h6 => (x5 = 0 → CS (sX11_slotAt E) [aI l1] h6 (kI fun x7 h8 => CS (sX11_dirX E) [aI l2] h8 (kI fun x9 h10 => CS (sX11_dirY E) [aI l2] h10 (kI fun x11 h12 => CV (sX11_highest E) l0 11 [aI x7, aI x9, aI x11] h12 (kI fun x13 h14 => post (some (aI x13)) h14))))) ∧ (¬ x5 = 0 → post (some (aI (-1000002 : Int32))) h6))) ∧ (x3 = 0 → post (some (aI (-1000001 : Int32))) h4))))
theorem bX11_extent_0 {E : EV} {X : AX} {post : Option AV → AH → Prop} (C : Cb E X cX11_extent RX11 3 rmX11_extent) (D : Cr E X (some .int) rmX11_extent "extent" post) {h : AH} {l0 : Option Nat} {l1 : Int32} {l2 : Int32} (w : PX11_extent_0 E post h l0 l1 l2) : Go E X 3 0 0 0 [(0, aP l0), (1, aI l1), (2, aI l2)] [] h := by
  unfold PX11_extent_0 at w
  refine r_iload_n C dX11_extent_0 rfl 1 rfl ?_
  refine r_csI (rm' := rmX11_isSlot) C mX11_isSlot vX11_isSlot k1049 [aI l1] [] rfl rfl (Nat.le_of_ble_eq_true rfl) (by decide) ⟨Nat.zero_le _, Nat.zero_le _⟩ 0 0 rfl rfl dX11_extent_1 w (fun x1 h2 w => ?_)
  refine r_if_eq C dX11_extent_4 (tgt := 17) rfl (fun hc => ?_) (fun hc => ?_)
  · have w := w.1 hc
    refine r_ldc (v := -1000001) C dX11_extent_17 k1039 ?_
    exact r_iret C D rfl (Nat.zero_le _) (Nat.zero_le _) dX11_extent_19 w
  · have w := w.2 hc
    refine r_iload_n C dX11_extent_7 rfl 2 rfl ?_
    refine r_iconst (v := 0) C dX11_extent_8 rfl ?_
    refine r_bipush (v := 7) C dX11_extent_9 rfl ?_
    refine r_csI (rm' := rmX11_in) C mX11_in vX11_in k1036 [aI l2, aI (0 : Int32), aI (7 : Int32)] [] rfl rfl (Nat.le_of_ble_eq_true rfl) (by decide) ⟨Nat.zero_le _, Nat.zero_le _⟩ 0 0 rfl rfl dX11_extent_11 w (fun x3 h4 w => ?_)
    refine r_if_ne C dX11_extent_14 (tgt := 20) rfl (fun hc => ?_) (fun hc => ?_)
    · have w := w.1 hc
      refine r_aload_n C dX11_extent_20 rfl 0 rfl ?_
      refine r_iload_n C dX11_extent_21 rfl 1 rfl ?_
      refine r_cvI (rm' := rmX11_isEmpty) C mX11_isEmpty vX11_isEmpty k1111 [aI l1] [] rfl rfl (Nat.le_of_ble_eq_true rfl) (by decide) ⟨Nat.zero_le _, Nat.zero_le _⟩ 0 0 rfl rfl dX11_extent_22 w (fun x5 h6 w => ?_)
      refine r_if_eq C dX11_extent_25 (tgt := 33) rfl (fun hc => ?_) (fun hc => ?_)
      · have w := w.1 hc
        refine r_aload_n C dX11_extent_33 rfl 0 rfl ?_
        refine r_iload_n C dX11_extent_34 rfl 1 rfl ?_
        refine r_csI (rm' := rmX11_slotAt) C mX11_slotAt vX11_slotAt k1100 [aI l1] [aP l0] rfl rfl (Nat.le_of_ble_eq_true rfl) (by decide) ⟨Nat.zero_le _, Nat.zero_le _⟩ 0 0 rfl rfl dX11_extent_35 w (fun x7 h8 w => ?_)
        refine r_iload_n C dX11_extent_38 rfl 2 rfl ?_
        refine r_csI (rm' := rmX11_dirX) C mX11_dirX vX11_dirX k1175 [aI l2] [aI x7, aP l0] rfl rfl (Nat.le_of_ble_eq_true rfl) (by decide) ⟨Nat.zero_le _, Nat.zero_le _⟩ 0 0 rfl rfl dX11_extent_39 w (fun x9 h10 w => ?_)
        refine r_iload_n C dX11_extent_42 rfl 2 rfl ?_
        refine r_csI (rm' := rmX11_dirY) C mX11_dirY vX11_dirY k1178 [aI l2] [aI x9, aI x7, aP l0] rfl rfl (Nat.le_of_ble_eq_true rfl) (by decide) ⟨Nat.zero_le _, Nat.zero_le _⟩ 0 0 rfl rfl dX11_extent_43 w (fun x11 h12 w => ?_)
        refine r_cvI (rm' := rmX11_highest) C mX11_highest vX11_highest k1181 [aI x7, aI x9, aI x11] [] rfl rfl (Nat.le_of_ble_eq_true rfl) (by decide) ⟨Nat.zero_le _, Nat.zero_le _⟩ 0 0 rfl rfl dX11_extent_46 w (fun x13 h14 w => ?_)
        exact r_iret C D rfl (Nat.zero_le _) (Nat.zero_le _) dX11_extent_49 w
      · have w := w.2 hc
        refine r_ldc (v := -1000002) C dX11_extent_28 k1027 ?_
        refine r_goto C dX11_extent_30 (tgt := 49) rfl ?_
        exact r_iret C D rfl (Nat.zero_le _) (Nat.zero_le _) dX11_extent_49 w
    · have w := w.2 hc
      refine r_ldc (v := -1000001) C dX11_extent_17 k1039 ?_
      exact r_iret C D rfl (Nat.zero_le _) (Nat.zero_le _) dX11_extent_19 w
theorem eX11_extent {E : EV} {post : Option AV → AH → Prop} {h : AH} {l0 : Option Nat} {l1 : Int32} {l2 : Int32} (w : PX11_extent_0 E post h l0 l1 l2) : sX11_extent E [aP l0, aI l1, aI l2] h post := Spec.of RX11 rfl rfl (Nat.le_of_ble_eq_true rfl) fun X C D => bX11_extent_0 C D w
theorem dX11_finds_0 : decode cX11_finds 0 = .ok (.aload_n 0, 1) := by decide +kernel
theorem dX11_finds_1 : decode cX11_finds 1 = .ok (.iload_n 1, 1) := by decide +kernel
theorem dX11_finds_2 : decode cX11_finds 2 = .ok (.iconst 0, 1) := by decide +kernel
theorem dX11_finds_3 : decode cX11_finds 3 = .ok (.iconst (-1), 1) := by decide +kernel
theorem dX11_finds_4 : decode cX11_finds 4 = .ok (.invokevirtual 227, 3) := by decide +kernel
theorem dX11_finds_7 : decode cX11_finds 7 = .ok (.istore_n 2, 1) := by decide +kernel
theorem dX11_finds_8 : decode cX11_finds 8 = .ok (.iload_n 2, 1) := by decide +kernel
theorem dX11_finds_9 : decode cX11_finds 9 = .ok (.aload_n 0, 1) := by decide +kernel
theorem dX11_finds_10 : decode cX11_finds 10 = .ok (.getfield 7, 3) := by decide +kernel
theorem dX11_finds_13 : decode cX11_finds 13 = .ok (.iconst 1, 1) := by decide +kernel
theorem dX11_finds_14 : decode cX11_finds 14 = .ok (.iaload, 1) := by decide +kernel
theorem dX11_finds_15 : decode cX11_finds 15 = .ok (.aload_n 0, 1) := by decide +kernel
theorem dX11_finds_16 : decode cX11_finds 16 = .ok (.iload_n 1, 1) := by decide +kernel
theorem dX11_finds_17 : decode cX11_finds 17 = .ok (.iconst 0, 1) := by decide +kernel
theorem dX11_finds_18 : decode cX11_finds 18 = .ok (.iconst 1, 1) := by decide +kernel
theorem dX11_finds_19 : decode cX11_finds 19 = .ok (.invokevirtual 227, 3) := by decide +kernel
theorem dX11_finds_22 : decode cX11_finds 22 = .ok (.isub, 1) := by decide +kernel
theorem dX11_finds_23 : decode cX11_finds 23 = .ok (.if_icmp .gt 65, 3) := by decide +kernel
theorem dX11_finds_26 : decode cX11_finds 26 = .ok (.aload_n 0, 1) := by decide +kernel
theorem dX11_finds_27 : decode cX11_finds 27 = .ok (.iload_n 1, 1) := by decide +kernel
theorem dX11_finds_28 : decode cX11_finds 28 = .ok (.iconst (-1), 1) := by decide +kernel
theorem dX11_finds_29 : decode cX11_finds 29 = .ok (.iconst 0, 1) := by decide +kernel
theorem dX11_finds_30 : decode cX11_finds 30 = .ok (.invokevirtual 227, 3) := by decide +kernel
theorem dX11_finds_33 : decode cX11_finds 33 = .ok (.istore_n 3, 1) := by decide +kernel
theorem dX11_finds_34 : decode cX11_finds 34 = .ok (.iload_n 3, 1) := by decide +kernel
theorem dX11_finds_35 : decode cX11_finds 35 = .ok (.aload_n 0, 1) := by decide +kernel
theorem dX11_finds_36 : decode cX11_finds 36 = .ok (.getfield 7, 3) := by decide +kernel
theorem dX11_finds_39 : decode cX11_finds 39 = .ok (.iconst 0, 1) := by decide +kernel
theorem dX11_finds_40 : decode cX11_finds 40 = .ok (.iaload, 1) := by decide +kernel
theorem dX11_finds_41 : decode cX11_finds 41 = .ok (.aload_n 0, 1) := by decide +kernel
theorem dX11_finds_42 : decode cX11_finds 42 = .ok (.iload_n 1, 1) := by decide +kernel
theorem dX11_finds_43 : decode cX11_finds 43 = .ok (.iconst 1, 1) := by decide +kernel
theorem dX11_finds_44 : decode cX11_finds 44 = .ok (.iconst 0, 1) := by decide +kernel
theorem dX11_finds_45 : decode cX11_finds 45 = .ok (.invokevirtual 227, 3) := by decide +kernel
theorem dX11_finds_48 : decode cX11_finds 48 = .ok (.isub, 1) := by decide +kernel
theorem dX11_finds_49 : decode cX11_finds 49 = .ok (.if_icmp .gt 33, 3) := by decide +kernel
theorem dX11_finds_52 : decode cX11_finds 52 = .ok (.aload_n 0, 1) := by decide +kernel
theorem dX11_finds_53 : decode cX11_finds 53 = .ok (.iload_n 1, 1) := by decide +kernel
theorem dX11_finds_54 : decode cX11_finds 54 = .ok (.iload_n 3, 1) := by decide +kernel
theorem dX11_finds_55 : decode cX11_finds 55 = .ok (.iload_n 2, 1) := by decide +kernel
theorem dX11_finds_56 : decode cX11_finds 56 = .ok (.ldc 226, 2) := by decide +kernel
theorem dX11_finds_58 : decode cX11_finds 58 = .ok (.invokevirtual 266, 3) := by decide +kernel
theorem dX11_finds_61 : decode cX11_finds 61 = .ok (.ifCond .eq 15, 3) := by decide +kernel
theorem dX11_finds_64 : decode cX11_finds 64 = .ok (.aload_n 0, 1) := by decide +kernel
theorem dX11_finds_65 : decode cX11_finds 65 = .ok (.iload_n 3, 1) := by decide +kernel
theorem dX11_finds_66 : decode cX11_finds 66 = .ok (.putfield 273, 3) := by decide +kernel
theorem dX11_finds_69 : decode cX11_finds 69 = .ok (.aload_n 0, 1) := by decide +kernel
theorem dX11_finds_70 : decode cX11_finds 70 = .ok (.iload_n 2, 1) := by decide +kernel
theorem dX11_finds_71 : decode cX11_finds 71 = .ok (.putfield 276, 3) := by decide +kernel
theorem dX11_finds_74 : decode cX11_finds 74 = .ok (.iconst 1, 1) := by decide +kernel
theorem dX11_finds_75 : decode cX11_finds 75 = .ok (.ireturn, 1) := by decide +kernel
theorem dX11_finds_76 : decode cX11_finds 76 = .ok (.iinc 3 1, 3) := by decide +kernel
theorem dX11_finds_79 : decode cX11_finds 79 = .ok (.goto (-45), 3) := by decide +kernel
theorem dX11_finds_82 : decode cX11_finds 82 = .ok (.iinc 2 1, 3) := by decide +kernel
theorem dX11_finds_85 : decode cX11_finds 85 = .ok (.goto (-77), 3) := by decide +kernel
theorem dX11_finds_88 : decode cX11_finds 88 = .ok (.iconst 0, 1) := by decide +kernel
theorem dX11_finds_89 : decode cX11_finds 89 = .ok (.ireturn, 1) := by decide +kernel
abbrev rmX11_finds : Room := { frames := 6, cells := 0, slots := 0, locals := 240 }
abbrev sX11_finds (E : EV) : List AV → AH → (Option AV → AH → Prop) → Prop := Spec E yX11_finds cX11_finds 4 (some .boolean) rmX11_finds
theorem mX11_finds : Mt yX11_finds cX11_finds 4 (some .boolean) 1 := ⟨k1323, k12, by decide +kernel⟩
theorem vX11_finds : MtV yX11_finds 11 := ⟨k1322, kp72, by decide, (RX11, TX11, 26), rfl, rfl⟩
def PX11_finds_34 (E : EV) (post : Option AV → AH → Prop) (J8 : AH → Option Nat → Int32 → Int32 → Prop) (J34 : AH → Option Nat → Int32 → Int32 → Int32 → Prop) (h : AH) (l0 : Option Nat) (l1 : Int32) (l2 : Int32) (l3 : Int32) : Prop :=
  rdP h l0 11 0 fun x1 => aldI h x1 0 (0 : Int32) fun x2 => CV (sX11_highest E) l0 11 [aI l1, aI (1 : Int32), aI (0 : Int32)] h (kI fun x3 h4 => ((x2 - x3) < l3 → J8 h4 l0 l1 (l2 + (1 : Int32))) ∧ (¬ (x2 - x3) < l3 → CV (sX11_fits E) l0 11 [aI l1, aI l3, aI l2, aI (-1000009 : Int32)] h4 (kI fun x5 h6 => (x5 = 0 → J34 h6 l0 l1 l2 (l3 + (1 : Int32))) ∧ (¬ x5 = 0 → wr h6 l0 11 21 (aI l3) fun h7 => wr h7 l0 11 22 (aI l2) fun h8 => post (some (aI (1 : Int32))) h8))))
theorem bX11_finds_34 {E : EV} {X : AX} {post : Option AV → AH → Prop} (C : Cb E X cX11_finds RX11 4 rmX11_finds) (D : Cr E X (some .boolean) rmX11_finds "finds" post) {J8 : AH → Option Nat → Int32 → Int32 → Prop} (g8 : ∀ (h : AH) (l0 : Option Nat) (l1 : Int32) (l2 : Int32), J8 h l0 l1 l2 → Go E X 4 0 0 8 [(0, aP l0), (1, aI l1), (2, aI l2)] [] h) {J34 : AH → Option Nat → Int32 → Int32 → Int32 → Prop} (g34 : ∀ (h : AH) (l0 : Option Nat) (l1 : Int32) (l2 : Int32) (l3 : Int32), J34 h l0 l1 l2 l3 → Go E X 4 0 0 34 [(0, aP l0), (1, aI l1), (2, aI l2), (3, aI l3)] [] h) {h : AH} {l0 : Option Nat} {l1 : Int32} {l2 : Int32} {l3 : Int32} (w : PX11_finds_34 E post J8 J34 h l0 l1 l2 l3) : Go E X 4 0 0 34 [(0, aP l0), (1, aI l1), (2, aI l2), (3, aI l3)] [] h := by
  unfold PX11_finds_34 at w
  refine r_iload_n C dX11_finds_34 rfl 3 rfl ?_
  refine r_aload_n C dX11_finds_35 rfl 0 rfl ?_
  refine r_getP C fcX11 (f := 0) (by decide) rfl k943 dX11_finds_36 (w.mono fun x1 w => ?_)
  refine r_iconst (v := 0) C dX11_finds_39 rfl ?_
  refine r_iald C dX11_finds_40 (w.mono fun x2 w => ?_)
  refine r_aload_n C dX11_finds_41 rfl 0 rfl ?_
  refine r_iload_n C dX11_finds_42 rfl 1 rfl ?_
  refine r_iconst (v := 1) C dX11_finds_43 rfl ?_
  refine r_iconst (v := 0) C dX11_finds_44 rfl ?_
  refine r_cvI (rm' := rmX11_highest) C mX11_highest vX11_highest k1181 [aI l1, aI (1 : Int32), aI (0 : Int32)] [aI x2, aI l3] rfl rfl (Nat.le_of_ble_eq_true rfl) (by decide) ⟨Nat.zero_le _, Nat.zero_le _⟩ 0 0 rfl rfl dX11_finds_45 w (fun x3 h4 w => ?_)
  refine r_isub C dX11_finds_48 ?_
  refine r_icmp_gt C dX11_finds_49 (tgt := 82) rfl (fun hc => ?_) (fun hc => ?_)
  · have w := w.1 hc
    refine r_iinc C dX11_finds_82 2 rfl (v := 1) rfl (by decide) rfl ?_
    refine r_goto C dX11_finds_85 (tgt := 8) rfl ?_
    exact r_sub [1, 2, 0] rfl (g8 h4 l0 l1 (l2 + (1 : Int32)) w)
  · have w := w.2 hc
    refine r_aload_n C dX11_finds_52 rfl 0 rfl ?_
    refine r_iload_n C dX11_finds_53 rfl 1 rfl ?_
    refine r_iload_n C dX11_finds_54 rfl 3 rfl ?_
    refine r_iload_n C dX11_finds_55 rfl 2 rfl ?_
    refine r_ldc (v := -1000009) C dX11_finds_56 k1170 ?_
    refine r_cvI (rm' := rmX11_fits) C mX11_fits vX11_fits k1300 [aI l1, aI l3, aI l2, aI (-1000009 : Int32)] [] rfl rfl (Nat.le_of_ble_eq_true rfl) (by decide) ⟨Nat.zero_le _, Nat.zero_le _⟩ 0 0 rfl rfl dX11_finds_58 w (fun x5 h6 w => ?_)
    refine r_if_eq C dX11_finds_61 (tgt := 76) rfl (fun hc => ?_) (fun hc => ?_)
    · have w := w.1 hc
      refine r_iinc C dX11_finds_76 3 rfl (v := 1) rfl (by decide) rfl ?_
      refine r_goto C dX11_finds_79 (tgt := 34) rfl ?_
      exact r_sub [1, 2, 3, 0] rfl (g34 h6 l0 l1 l2 (l3 + (1 : Int32)) w)
    · have w := w.2 hc
      refine r_aload_n C dX11_finds_64 rfl 0 rfl ?_
      refine r_iload_n C dX11_finds_65 rfl 3 rfl ?_
      refine r_put C fcX11 (f := 21) (by decide) rfl rfl rfl rfl k964 dX11_finds_66 (w.mono fun h7 w => ?_)
      refine r_aload_n C dX11_finds_69 rfl 0 rfl ?_
      refine r_iload_n C dX11_finds_70 rfl 2 rfl ?_
      refine r_put C fcX11 (f := 22) (by decide) rfl rfl rfl rfl k965 dX11_finds_71 (w.mono fun h8 w => ?_)
      refine r_iconst (v := 1) C dX11_finds_74 rfl ?_
      exact r_zret C D rfl (Or.inr rfl) (Nat.zero_le _) (Nat.zero_le _) dX11_finds_75 w
theorem lpX11_finds_34 {E : EV} {X : AX} {post : Option AV → AH → Prop} (C : Cb E X cX11_finds RX11 4 rmX11_finds) (D : Cr E X (some .boolean) rmX11_finds "finds" post) {J8 : AH → Option Nat → Int32 → Int32 → Prop} (g8 : ∀ (h : AH) (l0 : Option Nat) (l1 : Int32) (l2 : Int32), J8 h l0 l1 l2 → Go E X 4 0 0 8 [(0, aP l0), (1, aI l1), (2, aI l2)] [] h) (I : Nat → AH → Option Nat → Int32 → Int32 → Int32 → Prop) (step : ∀ (z : Nat) (h : AH) (l0 : Option Nat) (l1 : Int32) (l2 : Int32) (l3 : Int32), I z h l0 l1 l2 l3 → PX11_finds_34 E post J8 (fun h l0 l1 l2 l3 => ∃ z', z' < z ∧ I z' h l0 l1 l2 l3) h l0 l1 l2 l3) : ∀ (z : Nat) (h : AH) (l0 : Option Nat) (l1 : Int32) (l2 : Int32) (l3 : Int32), I z h l0 l1 l2 l3 → Go E X 4 0 0 34 [(0, aP l0), (1, aI l1), (2, aI l2), (3, aI l3)] [] h := by
  intro z
  induction z using Nat.strongRecOn with
  | _ z ih =>
    intro h l0 l1 l2 l3 hI
    exact bX11_finds_34 C D g8 (fun h l0 l1 l2 l3 hJ => by obtain ⟨z', hz, hi⟩ := hJ; exact ih z' hz h l0 l1 l2 l3 hi) (step z h l0 l1 l2 l3 hI)
def PX11_finds_8 (E : EV) (post : Option AV → AH → Prop) (J34 : AH → Option Nat → Int32 → Int32 → Int32 → Prop) (h : AH) (l0 : Option Nat) (l1 : Int32) (l2 : Int32) : Prop :=
  rdP h l0 11 0 fun x1 => aldI h x1 0 (1 : Int32) fun x2 => CV (sX11_highest E) l0 11 [aI l1, aI (0 : Int32), aI (1 : Int32)] h (kI fun x3 h4 => ((x2 - x3) < l2 → post (some (aI (0 : Int32))) h4) ∧ (¬ (x2 - x3) < l2 → CV (sX11_highest E) l0 11 [aI l1, aI (-1 : Int32), aI (0 : Int32)] h4 (kI fun x5 h6 => J34 h6 l0 l1 l2 x5)))
theorem bX11_finds_8 {E : EV} {X : AX} {post : Option AV → AH → Prop} (C : Cb E X cX11_finds RX11 4 rmX11_finds) (D : Cr E X (some .boolean) rmX11_finds "finds" post) {J34 : AH → Option Nat → Int32 → Int32 → Int32 → Prop} (g34 : ∀ (h : AH) (l0 : Option Nat) (l1 : Int32) (l2 : Int32) (l3 : Int32), J34 h l0 l1 l2 l3 → Go E X 4 0 0 34 [(0, aP l0), (1, aI l1), (2, aI l2), (3, aI l3)] [] h) {h : AH} {l0 : Option Nat} {l1 : Int32} {l2 : Int32} (w : PX11_finds_8 E post J34 h l0 l1 l2) : Go E X 4 0 0 8 [(0, aP l0), (1, aI l1), (2, aI l2)] [] h := by
  unfold PX11_finds_8 at w
  refine r_iload_n C dX11_finds_8 rfl 2 rfl ?_
  refine r_aload_n C dX11_finds_9 rfl 0 rfl ?_
  refine r_getP C fcX11 (f := 0) (by decide) rfl k943 dX11_finds_10 (w.mono fun x1 w => ?_)
  refine r_iconst (v := 1) C dX11_finds_13 rfl ?_
  refine r_iald C dX11_finds_14 (w.mono fun x2 w => ?_)
  refine r_aload_n C dX11_finds_15 rfl 0 rfl ?_
  refine r_iload_n C dX11_finds_16 rfl 1 rfl ?_
  refine r_iconst (v := 0) C dX11_finds_17 rfl ?_
  refine r_iconst (v := 1) C dX11_finds_18 rfl ?_
  refine r_cvI (rm' := rmX11_highest) C mX11_highest vX11_highest k1181 [aI l1, aI (0 : Int32), aI (1 : Int32)] [aI x2, aI l2] rfl rfl (Nat.le_of_ble_eq_true rfl) (by decide) ⟨Nat.zero_le _, Nat.zero_le _⟩ 0 0 rfl rfl dX11_finds_19 w (fun x3 h4 w => ?_)
  refine r_isub C dX11_finds_22 ?_
  refine r_icmp_gt C dX11_finds_23 (tgt := 88) rfl (fun hc => ?_) (fun hc => ?_)
  · have w := w.1 hc
    refine r_iconst (v := 0) C dX11_finds_88 rfl ?_
    exact r_zret C D rfl (Or.inl rfl) (Nat.zero_le _) (Nat.zero_le _) dX11_finds_89 w
  · have w := w.2 hc
    refine r_aload_n C dX11_finds_26 rfl 0 rfl ?_
    refine r_iload_n C dX11_finds_27 rfl 1 rfl ?_
    refine r_iconst (v := -1) C dX11_finds_28 rfl ?_
    refine r_iconst (v := 0) C dX11_finds_29 rfl ?_
    refine r_cvI (rm' := rmX11_highest) C mX11_highest vX11_highest k1181 [aI l1, aI (-1 : Int32), aI (0 : Int32)] [] rfl rfl (Nat.le_of_ble_eq_true rfl) (by decide) ⟨Nat.zero_le _, Nat.zero_le _⟩ 0 0 rfl rfl dX11_finds_30 w (fun x5 h6 w => ?_)
    refine r_istore_n C dX11_finds_33 rfl (by decide) rfl ?_
    exact r_sub [1, 2, 3, 0] rfl (g34 h6 l0 l1 l2 x5 w)
def PX11_finds_0 (E : EV) (post : Option AV → AH → Prop) (J8 : AH → Option Nat → Int32 → Int32 → Prop) (h : AH) (l0 : Option Nat) (l1 : Int32) : Prop :=
  CV (sX11_highest E) l0 11 [aI l1, aI (0 : Int32), aI (-1 : Int32)] h (kI fun x1 h2 => J8 h2 l0 l1 x1)
theorem bX11_finds_0 {E : EV} {X : AX} {post : Option AV → AH → Prop} (C : Cb E X cX11_finds RX11 4 rmX11_finds) (D : Cr E X (some .boolean) rmX11_finds "finds" post) {J8 : AH → Option Nat → Int32 → Int32 → Prop} (g8 : ∀ (h : AH) (l0 : Option Nat) (l1 : Int32) (l2 : Int32), J8 h l0 l1 l2 → Go E X 4 0 0 8 [(0, aP l0), (1, aI l1), (2, aI l2)] [] h) {h : AH} {l0 : Option Nat} {l1 : Int32} (w : PX11_finds_0 E post J8 h l0 l1) : Go E X 4 0 0 0 [(0, aP l0), (1, aI l1)] [] h := by
  unfold PX11_finds_0 at w
  refine r_aload_n C dX11_finds_0 rfl 0 rfl ?_
  refine r_iload_n C dX11_finds_1 rfl 1 rfl ?_
  refine r_iconst (v := 0) C dX11_finds_2 rfl ?_
  refine r_iconst (v := -1) C dX11_finds_3 rfl ?_
  refine r_cvI (rm' := rmX11_highest) C mX11_highest vX11_highest k1181 [aI l1, aI (0 : Int32), aI (-1 : Int32)] [] rfl rfl (Nat.le_of_ble_eq_true rfl) (by decide) ⟨Nat.zero_le _, Nat.zero_le _⟩ 0 0 rfl rfl dX11_finds_4 w (fun x1 h2 w => ?_)
  refine r_istore_n C dX11_finds_7 rfl (by decide) rfl ?_
  exact r_sub [1, 2, 0] rfl (g8 h2 l0 l1 x1 w)
theorem eX11_finds {E : EV} {post : Option AV → AH → Prop} {h : AH} {l0 : Option Nat} {l1 : Int32} {J8 : AH → Option Nat → Int32 → Int32 → Prop} (g8 : ∀ X : AX, Cb E X cX11_finds RX11 4 rmX11_finds → Cr E X (some .boolean) rmX11_finds "finds" post → ∀ (h : AH) (l0 : Option Nat) (l1 : Int32) (l2 : Int32), J8 h l0 l1 l2 → Go E X 4 0 0 8 [(0, aP l0), (1, aI l1), (2, aI l2)] [] h) (w : PX11_finds_0 E post J8 h l0 l1) : sX11_finds E [aP l0, aI l1] h post := Spec.of RX11 rfl rfl (Nat.le_of_ble_eq_true rfl) fun X C D => bX11_finds_0 C D (g8 X C D) w
theorem dX11_freePlaces_0 : decode cX11_freePlaces 0 = .ok (.iload_n 1, 1) := by decide +kernel
theorem dX11_freePlaces_1 : decode cX11_freePlaces 1 = .ok (.invokestatic 182, 3) := by decide +kernel
theorem dX11_freePlaces_4 : decode cX11_freePlaces 4 = .ok (.ifCond .ne 6, 3) := by decide +kernel
theorem dX11_freePlaces_7 : decode cX11_freePlaces 7 = .ok (.ldc 145, 2) := by decide +kernel
theorem dX11_freePlaces_9 : decode cX11_freePlaces 9 = .ok (.ireturn, 1) := by decide +kernel
theorem dX11_freePlaces_10 : decode cX11_freePlaces 10 = .ok (.aload_n 0, 1) := by decide +kernel
theorem dX11_freePlaces_11 : decode cX11_freePlaces 11 = .ok (.iload_n 1, 1) := by decide +kernel
theorem dX11_freePlaces_12 : decode cX11_freePlaces 12 = .ok (.invokevirtual 195, 3) := by decide +kernel
theorem dX11_freePlaces_15 : decode cX11_freePlaces 15 = .ok (.ifCond .eq 6, 3) := by decide +kernel
theorem dX11_freePlaces_18 : decode cX11_freePlaces 18 = .ok (.ldc 42, 2) := by decide +kernel
theorem dX11_freePlaces_20 : decode cX11_freePlaces 20 = .ok (.ireturn, 1) := by decide +kernel
theorem dX11_freePlaces_21 : decode cX11_freePlaces 21 = .ok (.iload_n 1, 1) := by decide +kernel
theorem dX11_freePlaces_22 : decode cX11_freePlaces 22 = .ok (.invokestatic 50, 3) := by decide +kernel
theorem dX11_freePlaces_25 : decode cX11_freePlaces 25 = .ok (.istore_n 2, 1) := by decide +kernel
theorem dX11_freePlaces_26 : decode cX11_freePlaces 26 = .ok (.iconst 0, 1) := by decide +kernel
theorem dX11_freePlaces_27 : decode cX11_freePlaces 27 = .ok (.istore_n 3, 1) := by decide +kernel
theorem dX11_freePlaces_28 : decode cX11_freePlaces 28 = .ok (.aload_n 0, 1) := by decide +kernel
theorem dX11_freePlaces_29 : decode cX11_freePlaces 29 = .ok (.iload_n 2, 1) := by decide +kernel
theorem dX11_freePlaces_30 : decode cX11_freePlaces 30 = .ok (.iconst 0, 1) := by decide +kernel
theorem dX11_freePlaces_31 : decode cX11_freePlaces 31 = .ok (.iconst (-1), 1) := by decide +kernel
theorem dX11_freePlaces_32 : decode cX11_freePlaces 32 = .ok (.invokevirtual 227, 3) := by decide +kernel
theorem dX11_freePlaces_35 : decode cX11_freePlaces 35 = .ok (.istore 4, 2) := by decide +kernel
theorem dX11_freePlaces_37 : decode cX11_freePlaces 37 = .ok (.iload 4, 2) := by decide +kernel
theorem dX11_freePlaces_39 : decode cX11_freePlaces 39 = .ok (.aload_n 0, 1) := by decide +kernel
theorem dX11_freePlaces_40 : decode cX11_freePlaces 40 = .ok (.getfield 7, 3) := by decide +kernel
theorem dX11_freePlaces_43 : decode cX11_freePlaces 43 = .ok (.iconst 1, 1) := by decide +kernel
theorem dX11_freePlaces_44 : decode cX11_freePlaces 44 = .ok (.iaload, 1) := by decide +kernel
theorem dX11_freePlaces_45 : decode cX11_freePlaces 45 = .ok (.aload_n 0, 1) := by decide +kernel
theorem dX11_freePlaces_46 : decode cX11_freePlaces 46 = .ok (.iload_n 2, 1) := by decide +kernel
theorem dX11_freePlaces_47 : decode cX11_freePlaces 47 = .ok (.iconst 0, 1) := by decide +kernel
theorem dX11_freePlaces_48 : decode cX11_freePlaces 48 = .ok (.iconst 1, 1) := by decide +kernel
theorem dX11_freePlaces_49 : decode cX11_freePlaces 49 = .ok (.invokevirtual 227, 3) := by decide +kernel
theorem dX11_freePlaces_52 : decode cX11_freePlaces 52 = .ok (.isub, 1) := by decide +kernel
theorem dX11_freePlaces_53 : decode cX11_freePlaces 53 = .ok (.if_icmp .gt 65, 3) := by decide +kernel
theorem dX11_freePlaces_56 : decode cX11_freePlaces 56 = .ok (.aload_n 0, 1) := by decide +kernel
theorem dX11_freePlaces_57 : decode cX11_freePlaces 57 = .ok (.iload_n 2, 1) := by decide +kernel
theorem dX11_freePlaces_58 : decode cX11_freePlaces 58 = .ok (.iconst (-1), 1) := by decide +kernel
theorem dX11_freePlaces_59 : decode cX11_freePlaces 59 = .ok (.iconst 0, 1) := by decide +kernel
theorem dX11_freePlaces_60 : decode cX11_freePlaces 60 = .ok (.invokevirtual 227, 3) := by decide +kernel
theorem dX11_freePlaces_63 : decode cX11_freePlaces 63 = .ok (.istore 5, 2) := by decide +kernel
theorem dX11_freePlaces_65 : decode cX11_freePlaces 65 = .ok (.iload 5, 2) := by decide +kernel
theorem dX11_freePlaces_67 : decode cX11_freePlaces 67 = .ok (.aload_n 0, 1) := by decide +kernel
theorem dX11_freePlaces_68 : decode cX11_freePlaces 68 = .ok (.getfield 7, 3) := by decide +kernel
theorem dX11_freePlaces_71 : decode cX11_freePlaces 71 = .ok (.iconst 0, 1) := by decide +kernel
theorem dX11_freePlaces_72 : decode cX11_freePlaces 72 = .ok (.iaload, 1) := by decide +kernel
theorem dX11_freePlaces_73 : decode cX11_freePlaces 73 = .ok (.aload_n 0, 1) := by decide +kernel
theorem dX11_freePlaces_74 : decode cX11_freePlaces 74 = .ok (.iload_n 2, 1) := by decide +kernel
theorem dX11_freePlaces_75 : decode cX11_freePlaces 75 = .ok (.iconst 1, 1) := by decide +kernel
theorem dX11_freePlaces_76 : decode cX11_freePlaces 76 = .ok (.iconst 0, 1) := by decide +kernel
theorem dX11_freePlaces_77 : decode cX11_freePlaces 77 = .ok (.invokevirtual 227, 3) := by decide +kernel
theorem dX11_freePlaces_80 : decode cX11_freePlaces 80 = .ok (.isub, 1) := by decide +kernel
theorem dX11_freePlaces_81 : decode cX11_freePlaces 81 = .ok (.if_icmp .gt 31, 3) := by decide +kernel
theorem dX11_freePlaces_84 : decode cX11_freePlaces 84 = .ok (.iload_n 3, 1) := by decide +kernel
theorem dX11_freePlaces_85 : decode cX11_freePlaces 85 = .ok (.aload_n 0, 1) := by decide +kernel
theorem dX11_freePlaces_86 : decode cX11_freePlaces 86 = .ok (.iload_n 2, 1) := by decide +kernel
theorem dX11_freePlaces_87 : decode cX11_freePlaces 87 = .ok (.iload 5, 2) := by decide +kernel
theorem dX11_freePlaces_89 : decode cX11_freePlaces 89 = .ok (.iload 4, 2) := by decide +kernel
theorem dX11_freePlaces_91 : decode cX11_freePlaces 91 = .ok (.ldc 226, 2) := by decide +kernel
theorem dX11_freePlaces_93 : decode cX11_freePlaces 93 = .ok (.invokevirtual 266, 3) := by decide +kernel
theorem dX11_freePlaces_96 : decode cX11_freePlaces 96 = .ok (.ifCond .eq 7, 3) := by decide +kernel
theorem dX11_freePlaces_99 : decode cX11_freePlaces 99 = .ok (.iconst 1, 1) := by decide +kernel
theorem dX11_freePlaces_100 : decode cX11_freePlaces 100 = .ok (.goto 4, 3) := by decide +kernel
theorem dX11_freePlaces_103 : decode cX11_freePlaces 103 = .ok (.iconst 0, 1) := by decide +kernel
theorem dX11_freePlaces_104 : decode cX11_freePlaces 104 = .ok (.iadd, 1) := by decide +kernel
theorem dX11_freePlaces_105 : decode cX11_freePlaces 105 = .ok (.istore_n 3, 1) := by decide +kernel
theorem dX11_freePlaces_106 : decode cX11_freePlaces 106 = .ok (.iinc 5 1, 3) := by decide +kernel
theorem dX11_freePlaces_109 : decode cX11_freePlaces 109 = .ok (.goto (-44), 3) := by decide +kernel
theorem dX11_freePlaces_112 : decode cX11_freePlaces 112 = .ok (.iinc 4 1, 3) := by decide +kernel
theorem dX11_freePlaces_115 : decode cX11_freePlaces 115 = .ok (.goto (-78), 3) := by decide +kernel
theorem dX11_freePlaces_118 : decode cX11_freePlaces 118 = .ok (.iload_n 3, 1) := by decide +kernel
theorem dX11_freePlaces_119 : decode cX11_freePlaces 119 = .ok (.ireturn, 1) := by decide +kernel
abbrev rmX11_freePlaces : Room := { frames := 6, cells := 0, slots := 0, locals := 240 }
abbrev sX11_freePlaces (E : EV) : List AV → AH → (Option AV → AH → Prop) → Prop := Spec E yX11_freePlaces cX11_freePlaces 6 (some .int) rmX11_freePlaces
theorem mX11_freePlaces : Mt yX11_freePlaces cX11_freePlaces 6 (some .int) 1 := ⟨k1380, k12, by decide +kernel⟩
theorem vX11_freePlaces : MtV yX11_freePlaces 11 := ⟨k1378, k1379, by decide, (RX11, TX11, 26), rfl, rfl⟩
def PX11_freePlaces_104 (E : EV) (post : Option AV → AH → Prop) (J65 : AH → Option Nat → Int32 → Int32 → Int32 → Int32 → Prop) (h : AH) (l0 : Option Nat) (l2 : Int32) (l4 : Int32) (l5 : Int32) (s0 : Int32) (s1 : Int32) : Prop :=
  ∀ v1, v1 = (s0 + s1) → J65 h l0 l2 v1 l4 (l5 + (1 : Int32))
theorem bX11_freePlaces_104 {E : EV} {X : AX} {post : Option AV → AH → Prop} (C : Cb E X cX11_freePlaces RX11 6 rmX11_freePlaces) (D : Cr E X (some .int) rmX11_freePlaces "freePlaces" post) {J65 : AH → Option Nat → Int32 → Int32 → Int32 → Int32 → Prop} (g65 : ∀ (h : AH) (l0 : Option Nat) (l2 : Int32) (l3 : Int32) (l4 : Int32) (l5 : Int32), J65 h l0 l2 l3 l4 l5 → Go E X 6 0 0 65 [(0, aP l0), (2, aI l2), (3, aI l3), (4, aI l4), (5, aI l5)] [] h) {h : AH} {l0 : Option Nat} {l2 : Int32} {l4 : Int32} {l5 : Int32} {s0 : Int32} {s1 : Int32} (w : PX11_freePlaces_104 E post J65 h l0 l2 l4 l5 s0 s1) : Go E X 6 0 0 104 [(0, aP l0), (2, aI l2), (4, aI l4), (5, aI l5)] [aI s1, aI s0] h := by
  unfold PX11_freePlaces_104 at w
  refine r_iadd C dX11_freePlaces_104 ?_
  refine r_istore_n C dX11_freePlaces_105 rfl (by decide) rfl ?_
  have w := w _ rfl
  refine r_iinc C dX11_freePlaces_106 4 rfl (v := 1) rfl (by decide) rfl ?_
  refine r_goto C dX11_freePlaces_109 (tgt := 65) rfl ?_
  exact r_sub [2, 3, 1, 4, 0] rfl (g65 h l0 l2 (s0 + s1) l4 (l5 + (1 : Int32)) w)
def PX11_freePlaces_65 (E : EV) (post : Option AV → AH → Prop) (J37 : AH → Option Nat → Int32 → Int32 → Int32 → Prop) (J65 : AH → Option Nat → Int32 → Int32 → Int32 → Int32 → Prop) (h : AH) (l0 : Option Nat) (l2 : Int32) (l3 : Int32) (l4 : Int32) (l5 : Int32) : Prop :=
  rdP h l0 11 0 fun x1 => aldI h x1 0 (0 : Int32) fun x2 => CV (sX11_highest E) l0 11 [aI l2, aI (1 : Int32), aI (0 : Int32)] h (kI fun x3 h4 => ((x2 - x3) < l5 → J37 h4 l0 l2 l3 (l4 + (1 : Int32))) ∧ (¬ (x2 - x3) < l5 → CV (sX11_fits E) l0 11 [aI l2, aI l5, aI l4, aI (-1000009 : Int32)] h4 (kI fun x5 h6 => (x5 = 0 → PX11_freePlaces_104 E post J65 h6 l0 l2 l4 l5 l3 (0 : Int32)) ∧ (¬ x5 = 0 → PX11_freePlaces_104 E post J65 h6 l0 l2 l4 l5 l3 (1 : Int32)))))
theorem bX11_freePlaces_65 {E : EV} {X : AX} {post : Option AV → AH → Prop} (C : Cb E X cX11_freePlaces RX11 6 rmX11_freePlaces) (D : Cr E X (some .int) rmX11_freePlaces "freePlaces" post) {J37 : AH → Option Nat → Int32 → Int32 → Int32 → Prop} (g37 : ∀ (h : AH) (l0 : Option Nat) (l2 : Int32) (l3 : Int32) (l4 : Int32), J37 h l0 l2 l3 l4 → Go E X 6 0 0 37 [(0, aP l0), (2, aI l2), (3, aI l3), (4, aI l4)] [] h) {J65 : AH → Option Nat → Int32 → Int32 → Int32 → Int32 → Prop} (g65 : ∀ (h : AH) (l0 : Option Nat) (l2 : Int32) (l3 : Int32) (l4 : Int32) (l5 : Int32), J65 h l0 l2 l3 l4 l5 → Go E X 6 0 0 65 [(0, aP l0), (2, aI l2), (3, aI l3), (4, aI l4), (5, aI l5)] [] h) {h : AH} {l0 : Option Nat} {l2 : Int32} {l3 : Int32} {l4 : Int32} {l5 : Int32} (w : PX11_freePlaces_65 E post J37 J65 h l0 l2 l3 l4 l5) : Go E X 6 0 0 65 [(0, aP l0), (2, aI l2), (3, aI l3), (4, aI l4), (5, aI l5)] [] h := by
  unfold PX11_freePlaces_65 at w
  refine r_iload C dX11_freePlaces_65 4 rfl ?_
  refine r_aload_n C dX11_freePlaces_67 rfl 0 rfl ?_
  refine r_getP C fcX11 (f := 0) (by decide) rfl k943 dX11_freePlaces_68 (w.mono fun x1 w => ?_)
  refine r_iconst (v := 0) C dX11_freePlaces_71 rfl ?_
  refine r_iald C dX11_freePlaces_72 (w.mono fun x2 w => ?_)
  refine r_aload_n C dX11_freePlaces_73 rfl 0 rfl ?_
  refine r_iload_n C dX11_freePlaces_74 rfl 1 rfl ?_
  refine r_iconst (v := 1) C dX11_freePlaces_75 rfl ?_
  refine r_iconst (v := 0) C dX11_freePlaces_76 rfl ?_
  refine r_cvI (rm' := rmX11_highest) C mX11_highest vX11_highest k1181 [aI l2, aI (1 : Int32), aI (0 : Int32)] [aI x2, aI l5] rfl rfl (Nat.le_of_ble_eq_true rfl) (by decide) ⟨Nat.zero_le _, Nat.zero_le _⟩ 0 0 rfl rfl dX11_freePlaces_77 w (fun x3 h4 w => ?_)
  refine r_isub C dX11_freePlaces_80 ?_
  refine r_icmp_gt C dX11_freePlaces_81 (tgt := 112) rfl (fun hc => ?_) (fun hc => ?_)
  · have w := w.1 hc
    refine r_iinc C dX11_freePlaces_112 3 rfl (v := 1) rfl (by decide) rfl ?_
    refine r_goto C dX11_freePlaces_115 (tgt := 37) rfl ?_
    exact r_sub [1, 2, 3, 0] rfl (g37 h4 l0 l2 l3 (l4 + (1 : Int32)) w)
  · have w := w.2 hc
    refine r_iload_n C dX11_freePlaces_84 rfl 2 rfl ?_
    refine r_aload_n C dX11_freePlaces_85 rfl 0 rfl ?_
    refine r_iload_n C dX11_freePlaces_86 rfl 1 rfl ?_
    refine r_iload C dX11_freePlaces_87 4 rfl ?_
    refine r_iload C dX11_freePlaces_89 3 rfl ?_
    refine r_ldc (v := -1000009) C dX11_freePlaces_91 k1170 ?_
    refine r_cvI (rm' := rmX11_fits) C mX11_fits vX11_fits k1300 [aI l2, aI l5, aI l4, aI (-1000009 : Int32)] [aI l3] rfl rfl (Nat.le_of_ble_eq_true rfl) (by decide) ⟨Nat.zero_le _, Nat.zero_le _⟩ 0 0 rfl rfl dX11_freePlaces_93 w (fun x5 h6 w => ?_)
    refine r_if_eq C dX11_freePlaces_96 (tgt := 103) rfl (fun hc => ?_) (fun hc => ?_)
    · have w := w.1 hc
      refine r_iconst (v := 0) C dX11_freePlaces_103 rfl ?_
      exact r_sub [0, 1, 3, 4] rfl (bX11_freePlaces_104 C D g65 w)
    · have w := w.2 hc
      refine r_iconst (v := 1) C dX11_freePlaces_99 rfl ?_
      refine r_goto C dX11_freePlaces_100 (tgt := 104) rfl ?_
      exact r_sub [0, 1, 3, 4] rfl (bX11_freePlaces_104 C D g65 w)
theorem lpX11_freePlaces_65 {E : EV} {X : AX} {post : Option AV → AH → Prop} (C : Cb E X cX11_freePlaces RX11 6 rmX11_freePlaces) (D : Cr E X (some .int) rmX11_freePlaces "freePlaces" post) {J37 : AH → Option Nat → Int32 → Int32 → Int32 → Prop} (g37 : ∀ (h : AH) (l0 : Option Nat) (l2 : Int32) (l3 : Int32) (l4 : Int32), J37 h l0 l2 l3 l4 → Go E X 6 0 0 37 [(0, aP l0), (2, aI l2), (3, aI l3), (4, aI l4)] [] h) (I : Nat → AH → Option Nat → Int32 → Int32 → Int32 → Int32 → Prop) (step : ∀ (z : Nat) (h : AH) (l0 : Option Nat) (l2 : Int32) (l3 : Int32) (l4 : Int32) (l5 : Int32), I z h l0 l2 l3 l4 l5 → PX11_freePlaces_65 E post J37 (fun h l0 l2 l3 l4 l5 => ∃ z', z' < z ∧ I z' h l0 l2 l3 l4 l5) h l0 l2 l3 l4 l5) : ∀ (z : Nat) (h : AH) (l0 : Option Nat) (l2 : Int32) (l3 : Int32) (l4 : Int32) (l5 : Int32), I z h l0 l2 l3 l4 l5 → Go E X 6 0 0 65 [(0, aP l0), (2, aI l2), (3, aI l3), (4, aI l4), (5, aI l5)] [] h := by
  intro z
  induction z using Nat.strongRecOn with
  | _ z ih =>
    intro h l0 l2 l3 l4 l5 hI
    exact bX11_freePlaces_65 C D g37 (fun h l0 l2 l3 l4 l5 hJ => by obtain ⟨z', hz, hi⟩ := hJ; exact ih z' hz h l0 l2 l3 l4 l5 hi) (step z h l0 l2 l3 l4 l5 hI)
def PX11_freePlaces_37 (E : EV) (post : Option AV → AH → Prop) (J65 : AH → Option Nat → Int32 → Int32 → Int32 → Int32 → Prop) (h : AH) (l0 : Option Nat) (l2 : Int32) (l3 : Int32) (l4 : Int32) : Prop :=
  rdP h l0 11 0 fun x1 => aldI h x1 0 (1 : Int32) fun x2 => CV (sX11_highest E) l0 11 [aI l2, aI (0 : Int32), aI (1 : Int32)] h (kI fun x3 h4 => ((x2 - x3) < l4 → post (some (aI l3)) h4) ∧ (¬ (x2 - x3) < l4 → CV (sX11_highest E) l0 11 [aI l2, aI (-1 : Int32), aI (0 : Int32)] h4 (kI fun x5 h6 => J65 h6 l0 l2 l3 l4 x5)))
theorem bX11_freePlaces_37 {E : EV} {X : AX} {post : Option AV → AH → Prop} (C : Cb E X cX11_freePlaces RX11 6 rmX11_freePlaces) (D : Cr E X (some .int) rmX11_freePlaces "freePlaces" post) {J65 : AH → Option Nat → Int32 → Int32 → Int32 → Int32 → Prop} (g65 : ∀ (h : AH) (l0 : Option Nat) (l2 : Int32) (l3 : Int32) (l4 : Int32) (l5 : Int32), J65 h l0 l2 l3 l4 l5 → Go E X 6 0 0 65 [(0, aP l0), (2, aI l2), (3, aI l3), (4, aI l4), (5, aI l5)] [] h) {h : AH} {l0 : Option Nat} {l2 : Int32} {l3 : Int32} {l4 : Int32} (w : PX11_freePlaces_37 E post J65 h l0 l2 l3 l4) : Go E X 6 0 0 37 [(0, aP l0), (2, aI l2), (3, aI l3), (4, aI l4)] [] h := by
  unfold PX11_freePlaces_37 at w
  refine r_iload C dX11_freePlaces_37 3 rfl ?_
  refine r_aload_n C dX11_freePlaces_39 rfl 0 rfl ?_
  refine r_getP C fcX11 (f := 0) (by decide) rfl k943 dX11_freePlaces_40 (w.mono fun x1 w => ?_)
  refine r_iconst (v := 1) C dX11_freePlaces_43 rfl ?_
  refine r_iald C dX11_freePlaces_44 (w.mono fun x2 w => ?_)
  refine r_aload_n C dX11_freePlaces_45 rfl 0 rfl ?_
  refine r_iload_n C dX11_freePlaces_46 rfl 1 rfl ?_
  refine r_iconst (v := 0) C dX11_freePlaces_47 rfl ?_
  refine r_iconst (v := 1) C dX11_freePlaces_48 rfl ?_
  refine r_cvI (rm' := rmX11_highest) C mX11_highest vX11_highest k1181 [aI l2, aI (0 : Int32), aI (1 : Int32)] [aI x2, aI l4] rfl rfl (Nat.le_of_ble_eq_true rfl) (by decide) ⟨Nat.zero_le _, Nat.zero_le _⟩ 0 0 rfl rfl dX11_freePlaces_49 w (fun x3 h4 w => ?_)
  refine r_isub C dX11_freePlaces_52 ?_
  refine r_icmp_gt C dX11_freePlaces_53 (tgt := 118) rfl (fun hc => ?_) (fun hc => ?_)
  · have w := w.1 hc
    refine r_iload_n C dX11_freePlaces_118 rfl 2 rfl ?_
    exact r_iret C D rfl (Nat.zero_le _) (Nat.zero_le _) dX11_freePlaces_119 w
  · have w := w.2 hc
    refine r_aload_n C dX11_freePlaces_56 rfl 0 rfl ?_
    refine r_iload_n C dX11_freePlaces_57 rfl 1 rfl ?_
    refine r_iconst (v := -1) C dX11_freePlaces_58 rfl ?_
    refine r_iconst (v := 0) C dX11_freePlaces_59 rfl ?_
    refine r_cvI (rm' := rmX11_highest) C mX11_highest vX11_highest k1181 [aI l2, aI (-1 : Int32), aI (0 : Int32)] [] rfl rfl (Nat.le_of_ble_eq_true rfl) (by decide) ⟨Nat.zero_le _, Nat.zero_le _⟩ 0 0 rfl rfl dX11_freePlaces_60 w (fun x5 h6 w => ?_)
    refine r_istore C dX11_freePlaces_63 (by decide) rfl ?_
    exact r_sub [1, 2, 3, 4, 0] rfl (g65 h6 l0 l2 l3 l4 x5 w)
def PX11_freePlaces_0 (E : EV) (post : Option AV → AH → Prop) (J37 : AH → Option Nat → Int32 → Int32 → Int32 → Prop) (h : AH) (l0 : Option Nat) (l1 : Int32) : Prop :=
  CS (sX11_isSlot E) [aI l1] h (kI fun x1 h2 => (¬ x1 = 0 → CV (sX11_isEmpty E) l0 11 [aI l1] h2 (kI fun x3 h4 => (x3 = 0 → CS (sX11_slotAt E) [aI l1] h4 (kI fun x5 h6 => CV (sX11_highest E) l0 11 [aI x5, aI (0 : Int32), aI (-1 : Int32)] h6 (kI fun x9 h10 => J37 h10 l0 x5 (0 : Int32) x9))) ∧ (¬ x3 = 0 → post (some (aI (-1000002 : Int32))) h4))) ∧ (x1 = 0 → post (some (aI (-1000001 : Int32))) h2))
theorem bX11_freePlaces_0 {E : EV} {X : AX} {post : Option AV → AH → Prop} (C : Cb E X cX11_freePlaces RX11 6 rmX11_freePlaces) (D : Cr E X (some .int) rmX11_freePlaces "freePlaces" post) {J37 : AH → Option Nat → Int32 → Int32 → Int32 → Prop} (g37 : ∀ (h : AH) (l0 : Option Nat) (l2 : Int32) (l3 : Int32) (l4 : Int32), J37 h l0 l2 l3 l4 → Go E X 6 0 0 37 [(0, aP l0), (2, aI l2), (3, aI l3), (4, aI l4)] [] h) {h : AH} {l0 : Option Nat} {l1 : Int32} (w : PX11_freePlaces_0 E post J37 h l0 l1) : Go E X 6 0 0 0 [(0, aP l0), (1, aI l1)] [] h := by
  unfold PX11_freePlaces_0 at w
  refine r_iload_n C dX11_freePlaces_0 rfl 1 rfl ?_
  refine r_csI (rm' := rmX11_isSlot) C mX11_isSlot vX11_isSlot k1049 [aI l1] [] rfl rfl (Nat.le_of_ble_eq_true rfl) (by decide) ⟨Nat.zero_le _, Nat.zero_le _⟩ 0 0 rfl rfl dX11_freePlaces_1 w (fun x1 h2 w => ?_)
  refine r_if_ne C dX11_freePlaces_4 (tgt := 10) rfl (fun hc => ?_) (fun hc => ?_)
  · have w := w.1 hc
    refine r_aload_n C dX11_freePlaces_10 rfl 0 rfl ?_
    refine r_iload_n C dX11_freePlaces_11 rfl 1 rfl ?_
    refine r_cvI (rm' := rmX11_isEmpty) C mX11_isEmpty vX11_isEmpty k1111 [aI l1] [] rfl rfl (Nat.le_of_ble_eq_true rfl) (by decide) ⟨Nat.zero_le _, Nat.zero_le _⟩ 0 0 rfl rfl dX11_freePlaces_12 w (fun x3 h4 w => ?_)
    refine r_if_eq C dX11_freePlaces_15 (tgt := 21) rfl (fun hc => ?_) (fun hc => ?_)
    · have w := w.1 hc
      refine r_iload_n C dX11_freePlaces_21 rfl 1 rfl ?_
      refine r_csI (rm' := rmX11_slotAt) C mX11_slotAt vX11_slotAt k1100 [aI l1] [] rfl rfl (Nat.le_of_ble_eq_true rfl) (by decide) ⟨Nat.zero_le _, Nat.zero_le _⟩ 0 0 rfl rfl dX11_freePlaces_22 w (fun x5 h6 w => ?_)
      refine r_istore_n C dX11_freePlaces_25 rfl (by decide) rfl ?_
      refine r_iconst (v := 0) C dX11_freePlaces_26 rfl ?_
      refine r_istore_n C dX11_freePlaces_27 rfl (by decide) rfl ?_
      refine r_aload_n C dX11_freePlaces_28 rfl 2 rfl ?_
      refine r_iload_n C dX11_freePlaces_29 rfl 1 rfl ?_
      refine r_iconst (v := 0) C dX11_freePlaces_30 rfl ?_
      refine r_iconst (v := -1) C dX11_freePlaces_31 rfl ?_
      refine r_cvI (rm' := rmX11_highest) C mX11_highest vX11_highest k1181 [aI x5, aI (0 : Int32), aI (-1 : Int32)] [] rfl rfl (Nat.le_of_ble_eq_true rfl) (by decide) ⟨Nat.zero_le _, Nat.zero_le _⟩ 0 0 rfl rfl dX11_freePlaces_32 w (fun x9 h10 w => ?_)
      refine r_istore C dX11_freePlaces_35 (by decide) rfl ?_
      exact r_sub [3, 2, 1, 0] rfl (g37 h10 l0 x5 (0 : Int32) x9 w)
    · have w := w.2 hc
      refine r_ldc (v := -1000002) C dX11_freePlaces_18 k1027 ?_
      exact r_iret C D rfl (Nat.zero_le _) (Nat.zero_le _) dX11_freePlaces_20 w
  · have w := w.2 hc
    refine r_ldc (v := -1000001) C dX11_freePlaces_7 k1039 ?_
    exact r_iret C D rfl (Nat.zero_le _) (Nat.zero_le _) dX11_freePlaces_9 w
theorem eX11_freePlaces {E : EV} {post : Option AV → AH → Prop} {h : AH} {l0 : Option Nat} {l1 : Int32} {J37 : AH → Option Nat → Int32 → Int32 → Int32 → Prop} (g37 : ∀ X : AX, Cb E X cX11_freePlaces RX11 6 rmX11_freePlaces → Cr E X (some .int) rmX11_freePlaces "freePlaces" post → ∀ (h : AH) (l0 : Option Nat) (l2 : Int32) (l3 : Int32) (l4 : Int32), J37 h l0 l2 l3 l4 → Go E X 6 0 0 37 [(0, aP l0), (2, aI l2), (3, aI l3), (4, aI l4)] [] h) (w : PX11_freePlaces_0 E post J37 h l0 l1) : sX11_freePlaces E [aP l0, aI l1] h post := Spec.of RX11 rfl rfl (Nat.le_of_ble_eq_true rfl) fun X C D => bX11_freePlaces_0 C D (g37 X C D) w
theorem dX11_goesBack_0 : decode cX11_goesBack 0 = .ok (.aload_n 0, 1) := by decide +kernel
theorem dX11_goesBack_1 : decode cX11_goesBack 1 = .ok (.dup, 1) := by decide +kernel
theorem dX11_goesBack_2 : decode cX11_goesBack 2 = .ok (.getfield 38, 3) := by decide +kernel
theorem dX11_goesBack_5 : decode cX11_goesBack 5 = .ok (.iconst 1, 1) := by decide +kernel
theorem dX11_goesBack_6 : decode cX11_goesBack 6 = .ok (.isub, 1) := by decide +kernel
theorem dX11_goesBack_7 : decode cX11_goesBack 7 = .ok (.putfield 38, 3) := by decide +kernel
theorem dX11_goesBack_10 : decode cX11_goesBack 10 = .ok (.iconst 0, 1) := by decide +kernel
theorem dX11_goesBack_11 : decode cX11_goesBack 11 = .ok (.istore_n 1, 1) := by decide +kernel
theorem dX11_goesBack_12 : decode cX11_goesBack 12 = .ok (.iload_n 1, 1) := by decide +kernel
theorem dX11_goesBack_13 : decode cX11_goesBack 13 = .ok (.sipush 500, 3) := by decide +kernel
theorem dX11_goesBack_16 : decode cX11_goesBack 16 = .ok (.if_icmp .ge 30, 3) := by decide +kernel
theorem dX11_goesBack_19 : decode cX11_goesBack 19 = .ok (.aload_n 0, 1) := by decide +kernel
theorem dX11_goesBack_20 : decode cX11_goesBack 20 = .ok (.getfield 7, 3) := by decide +kernel
theorem dX11_goesBack_23 : decode cX11_goesBack 23 = .ok (.iload_n 1, 1) := by decide +kernel
theorem dX11_goesBack_24 : decode cX11_goesBack 24 = .ok (.aload_n 0, 1) := by decide +kernel
theorem dX11_goesBack_25 : decode cX11_goesBack 25 = .ok (.getfield 13, 3) := by decide +kernel
theorem dX11_goesBack_28 : decode cX11_goesBack 28 = .ok (.sipush 500, 3) := by decide +kernel
theorem dX11_goesBack_31 : decode cX11_goesBack 31 = .ok (.aload_n 0, 1) := by decide +kernel
theorem dX11_goesBack_32 : decode cX11_goesBack 32 = .ok (.getfield 38, 3) := by decide +kernel
theorem dX11_goesBack_35 : decode cX11_goesBack 35 = .ok (.imul, 1) := by decide +kernel
theorem dX11_goesBack_36 : decode cX11_goesBack 36 = .ok (.iload_n 1, 1) := by decide +kernel
theorem dX11_goesBack_37 : decode cX11_goesBack 37 = .ok (.iadd, 1) := by decide +kernel
theorem dX11_goesBack_38 : decode cX11_goesBack 38 = .ok (.iaload, 1) := by decide +kernel
theorem dX11_goesBack_39 : decode cX11_goesBack 39 = .ok (.iastore, 1) := by decide +kernel
theorem dX11_goesBack_40 : decode cX11_goesBack 40 = .ok (.iinc 1 1, 3) := by decide +kernel
theorem dX11_goesBack_43 : decode cX11_goesBack 43 = .ok (.goto (-31), 3) := by decide +kernel
theorem dX11_goesBack_46 : decode cX11_goesBack 46 = .ok (.return_, 1) := by decide +kernel
abbrev rmX11_goesBack : Room := { frames := 0, cells := 0, slots := 0, locals := 0 }
abbrev sX11_goesBack (E : EV) : List AV → AH → (Option AV → AH → Prop) → Prop := Spec E yX11_goesBack cX11_goesBack 2 none rmX11_goesBack
theorem mX11_goesBack : Mt yX11_goesBack cX11_goesBack 2 none 0 := ⟨k1031, k12, by decide +kernel⟩
theorem vX11_goesBack : MtV yX11_goesBack 11 := ⟨k1030, kp28, by decide, (RX11, TX11, 26), rfl, rfl⟩
def PX11_goesBack_12 (E : EV) (post : Option AV → AH → Prop) (J12 : AH → Option Nat → Int32 → Prop) (h : AH) (l0 : Option Nat) (l1 : Int32) : Prop :=
  ((500 : Int32) ≤ l1 → post none h) ∧ (¬ (500 : Int32) ≤ l1 → rdP h l0 11 0 fun x1 => rdP h l0 11 1 fun x2 => rdI h l0 11 2 fun x3 => aldI h x2 0 (((500 : Int32) * x3) + l1) fun x4 => astI h x1 0 l1 x4 fun h5 => J12 h5 l0 (l1 + (1 : Int32)))
theorem bX11_goesBack_12 {E : EV} {X : AX} {post : Option AV → AH → Prop} (C : Cb E X cX11_goesBack RX11 2 rmX11_goesBack) (D : Cr E X none rmX11_goesBack "goesBack" post) {J12 : AH → Option Nat → Int32 → Prop} (g12 : ∀ (h : AH) (l0 : Option Nat) (l1 : Int32), J12 h l0 l1 → Go E X 2 0 0 12 [(0, aP l0), (1, aI l1)] [] h) {h : AH} {l0 : Option Nat} {l1 : Int32} (w : PX11_goesBack_12 E post J12 h l0 l1) : Go E X 2 0 0 12 [(0, aP l0), (1, aI l1)] [] h := by
  unfold PX11_goesBack_12 at w
  refine r_iload_n C dX11_goesBack_12 rfl 1 rfl ?_
  refine r_sipush (v := 500) C dX11_goesBack_13 rfl ?_
  refine r_icmp_ge C dX11_goesBack_16 (tgt := 46) rfl (fun hc => ?_) (fun hc => ?_)
  · have w := w.1 hc
    exact r_vret C D rfl (Nat.zero_le _) (Nat.zero_le _) dX11_goesBack_46 w
  · have w := w.2 hc
    refine r_aload_n C dX11_goesBack_19 rfl 0 rfl ?_
    refine r_getP C fcX11 (f := 0) (by decide) rfl k943 dX11_goesBack_20 (w.mono fun x1 w => ?_)
    refine r_iload_n C dX11_goesBack_23 rfl 1 rfl ?_
    refine r_aload_n C dX11_goesBack_24 rfl 0 rfl ?_
    refine r_getP C fcX11 (f := 1) (by decide) rfl k944 dX11_goesBack_25 (w.mono fun x2 w => ?_)
    refine r_sipush (v := 500) C dX11_goesBack_28 rfl ?_
    refine r_aload_n C dX11_goesBack_31 rfl 0 rfl ?_
    refine r_getI C fcX11 (f := 2) (by decide) rfl k945 dX11_goesBack_32 (w.mono fun x3 w => ?_)
    refine r_imul C dX11_goesBack_35 ?_
    refine r_iload_n C dX11_goesBack_36 rfl 1 rfl ?_
    refine r_iadd C dX11_goesBack_37 ?_
    refine r_iald C dX11_goesBack_38 (w.mono fun x4 w => ?_)
    refine r_iast C dX11_goesBack_39 (w.mono fun h5 w => ?_)
    refine r_iinc C dX11_goesBack_40 1 rfl (v := 1) rfl (by decide) rfl ?_
    refine r_goto C dX11_goesBack_43 (tgt := 12) rfl ?_
    exact r_sub [1, 0] rfl (g12 h5 l0 (l1 + (1 : Int32)) w)
theorem lpX11_goesBack_12 {E : EV} {X : AX} {post : Option AV → AH → Prop} (C : Cb E X cX11_goesBack RX11 2 rmX11_goesBack) (D : Cr E X none rmX11_goesBack "goesBack" post) (I : Nat → AH → Option Nat → Int32 → Prop) (step : ∀ (z : Nat) (h : AH) (l0 : Option Nat) (l1 : Int32), I z h l0 l1 → PX11_goesBack_12 E post (fun h l0 l1 => ∃ z', z' < z ∧ I z' h l0 l1) h l0 l1) : ∀ (z : Nat) (h : AH) (l0 : Option Nat) (l1 : Int32), I z h l0 l1 → Go E X 2 0 0 12 [(0, aP l0), (1, aI l1)] [] h := by
  intro z
  induction z using Nat.strongRecOn with
  | _ z ih =>
    intro h l0 l1 hI
    exact bX11_goesBack_12 C D (fun h l0 l1 hJ => by obtain ⟨z', hz, hi⟩ := hJ; exact ih z' hz h l0 l1 hi) (step z h l0 l1 hI)
def PX11_goesBack_0 (E : EV) (post : Option AV → AH → Prop) (J12 : AH → Option Nat → Int32 → Prop) (h : AH) (l0 : Option Nat) : Prop :=
  rdI h l0 11 2 fun x1 => wr h l0 11 2 (aI (x1 - (1 : Int32))) fun h2 => J12 h2 l0 (0 : Int32)
theorem bX11_goesBack_0 {E : EV} {X : AX} {post : Option AV → AH → Prop} (C : Cb E X cX11_goesBack RX11 2 rmX11_goesBack) (D : Cr E X none rmX11_goesBack "goesBack" post) {J12 : AH → Option Nat → Int32 → Prop} (g12 : ∀ (h : AH) (l0 : Option Nat) (l1 : Int32), J12 h l0 l1 → Go E X 2 0 0 12 [(0, aP l0), (1, aI l1)] [] h) {h : AH} {l0 : Option Nat} (w : PX11_goesBack_0 E post J12 h l0) : Go E X 2 0 0 0 [(0, aP l0)] [] h := by
  unfold PX11_goesBack_0 at w
  refine r_aload_n C dX11_goesBack_0 rfl 0 rfl ?_
  refine r_dup C dX11_goesBack_1 rfl ?_
  refine r_getI C fcX11 (f := 2) (by decide) rfl k945 dX11_goesBack_2 (w.mono fun x1 w => ?_)
  refine r_iconst (v := 1) C dX11_goesBack_5 rfl ?_
  refine r_isub C dX11_goesBack_6 ?_
  refine r_put C fcX11 (f := 2) (by decide) rfl rfl rfl rfl k945 dX11_goesBack_7 (w.mono fun h2 w => ?_)
  refine r_iconst (v := 0) C dX11_goesBack_10 rfl ?_
  refine r_istore_n C dX11_goesBack_11 rfl (by decide) rfl ?_
  exact r_sub [1, 0] rfl (g12 h2 l0 (0 : Int32) w)
theorem eX11_goesBack {E : EV} {post : Option AV → AH → Prop} {h : AH} {l0 : Option Nat} {J12 : AH → Option Nat → Int32 → Prop} (g12 : ∀ X : AX, Cb E X cX11_goesBack RX11 2 rmX11_goesBack → Cr E X none rmX11_goesBack "goesBack" post → ∀ (h : AH) (l0 : Option Nat) (l1 : Int32), J12 h l0 l1 → Go E X 2 0 0 12 [(0, aP l0), (1, aI l1)] [] h) (w : PX11_goesBack_0 E post J12 h l0) : sX11_goesBack E [aP l0] h post := Spec.of RX11 rfl rfl (Nat.le_of_ble_eq_true rfl) fun X C D => bX11_goesBack_0 C D (g12 X C D) w
theorem dX11_point_0 : decode cX11_point 0 = .ok (.aload_n 0, 1) := by decide +kernel
theorem dX11_point_1 : decode cX11_point 1 = .ok (.getfield 20, 3) := by decide +kernel
theorem dX11_point_4 : decode cX11_point 4 = .ok (.aload_n 0, 1) := by decide +kernel
theorem dX11_point_5 : decode cX11_point 5 = .ok (.getfield 208, 3) := by decide +kernel
theorem dX11_point_8 : decode cX11_point 8 = .ok (.iload_n 1, 1) := by decide +kernel
theorem dX11_point_9 : decode cX11_point 9 = .ok (.iastore, 1) := by decide +kernel
theorem dX11_point_10 : decode cX11_point 10 = .ok (.aload_n 0, 1) := by decide +kernel
theorem dX11_point_11 : decode cX11_point 11 = .ok (.getfield 23, 3) := by decide +kernel
theorem dX11_point_14 : decode cX11_point 14 = .ok (.aload_n 0, 1) := by decide +kernel
theorem dX11_point_15 : decode cX11_point 15 = .ok (.getfield 208, 3) := by decide +kernel
theorem dX11_point_18 : decode cX11_point 18 = .ok (.iload_n 2, 1) := by decide +kernel
theorem dX11_point_19 : decode cX11_point 19 = .ok (.iastore, 1) := by decide +kernel
theorem dX11_point_20 : decode cX11_point 20 = .ok (.aload_n 0, 1) := by decide +kernel
theorem dX11_point_21 : decode cX11_point 21 = .ok (.dup, 1) := by decide +kernel
theorem dX11_point_22 : decode cX11_point 22 = .ok (.getfield 208, 3) := by decide +kernel
theorem dX11_point_25 : decode cX11_point 25 = .ok (.iconst 1, 1) := by decide +kernel
theorem dX11_point_26 : decode cX11_point 26 = .ok (.iadd, 1) := by decide +kernel
theorem dX11_point_27 : decode cX11_point 27 = .ok (.putfield 208, 3) := by decide +kernel
theorem dX11_point_30 : decode cX11_point 30 = .ok (.return_, 1) := by decide +kernel
abbrev rmX11_point : Room := { frames := 0, cells := 0, slots := 0, locals := 0 }
abbrev sX11_point (E : EV) : List AV → AH → (Option AV → AH → Prop) → Prop := Spec E yX11_point cX11_point 3 none rmX11_point
theorem mX11_point : Mt yX11_point cX11_point 3 none 2 := ⟨k1154, k12, by decide +kernel⟩
theorem vX11_point : MtV yX11_point 11 := ⟨k1153, kp48, by decide, (RX11, TX11, 26), rfl, rfl⟩
def PX11_point_0 (E : EV) (post : Option AV → AH → Prop) (h : AH) (l0 : Option Nat) (l1 : Int32) (l2 : Int32) : Prop :=
  rdP h l0 11 16 fun x1 => rdI h l0 11 15 fun x2 => astI h x1 0 x2 l1 fun h3 => rdP h3 l0 11 17 fun x4 => rdI h3 l0 11 15 fun x5 => astI h3 x4 0 x5 l2 fun h6 => rdI h6 l0 11 15 fun x7 => wr h6 l0 11 15 (aI (x7 + (1 : Int32))) fun h8 => post none h8
theorem bX11_point_0 {E : EV} {X : AX} {post : Option AV → AH → Prop} (C : Cb E X cX11_point RX11 3 rmX11_point) (D : Cr E X none rmX11_point "point" post) {h : AH} {l0 : Option Nat} {l1 : Int32} {l2 : Int32} (w : PX11_point_0 E post h l0 l1 l2) : Go E X 3 0 0 0 [(0, aP l0), (1, aI l1), (2, aI l2)] [] h := by
  unfold PX11_point_0 at w
  refine r_aload_n C dX11_point_0 rfl 0 rfl ?_
  refine r_getP C fcX11 (f := 16) (by decide) rfl k959 dX11_point_1 (w.mono fun x1 w => ?_)
  refine r_aload_n C dX11_point_4 rfl 0 rfl ?_
  refine r_getI C fcX11 (f := 15) (by decide) rfl k958 dX11_point_5 (w.mono fun x2 w => ?_)
  refine r_iload_n C dX11_point_8 rfl 1 rfl ?_
  refine r_iast C dX11_point_9 (w.mono fun h3 w => ?_)
  refine r_aload_n C dX11_point_10 rfl 0 rfl ?_
  refine r_getP C fcX11 (f := 17) (by decide) rfl k960 dX11_point_11 (w.mono fun x4 w => ?_)
  refine r_aload_n C dX11_point_14 rfl 0 rfl ?_
  refine r_getI C fcX11 (f := 15) (by decide) rfl k958 dX11_point_15 (w.mono fun x5 w => ?_)
  refine r_iload_n C dX11_point_18 rfl 2 rfl ?_
  refine r_iast C dX11_point_19 (w.mono fun h6 w => ?_)
  refine r_aload_n C dX11_point_20 rfl 0 rfl ?_
  refine r_dup C dX11_point_21 rfl ?_
  refine r_getI C fcX11 (f := 15) (by decide) rfl k958 dX11_point_22 (w.mono fun x7 w => ?_)
  refine r_iconst (v := 1) C dX11_point_25 rfl ?_
  refine r_iadd C dX11_point_26 ?_
  refine r_put C fcX11 (f := 15) (by decide) rfl rfl rfl rfl k958 dX11_point_27 (w.mono fun h8 w => ?_)
  exact r_vret C D rfl (Nat.zero_le _) (Nat.zero_le _) dX11_point_30 w
theorem eX11_point {E : EV} {post : Option AV → AH → Prop} {h : AH} {l0 : Option Nat} {l1 : Int32} {l2 : Int32} (w : PX11_point_0 E post h l0 l1 l2) : sX11_point E [aP l0, aI l1, aI l2] h post := Spec.of RX11 rfl rfl (Nat.le_of_ble_eq_true rfl) fun X C D => bX11_point_0 C D w
theorem dX11_nextOf_0 : decode cX11_nextOf 0 = .ok (.iload_n 1, 1) := by decide +kernel
theorem dX11_nextOf_1 : decode cX11_nextOf 1 = .ok (.istore_n 2, 1) := by decide +kernel
theorem dX11_nextOf_2 : decode cX11_nextOf 2 = .ok (.iconst 0, 1) := by decide +kernel
theorem dX11_nextOf_3 : decode cX11_nextOf 3 = .ok (.istore_n 3, 1) := by decide +kernel
theorem dX11_nextOf_4 : decode cX11_nextOf 4 = .ok (.iload_n 3, 1) := by decide +kernel
theorem dX11_nextOf_5 : decode cX11_nextOf 5 = .ok (.aload_n 0, 1) := by decide +kernel
theorem dX11_nextOf_6 : decode cX11_nextOf 6 = .ok (.getfield 208, 3) := by decide +kernel
theorem dX11_nextOf_9 : decode cX11_nextOf 9 = .ok (.if_icmp .ge 164, 3) := by decide +kernel
theorem dX11_nextOf_12 : decode cX11_nextOf 12 = .ok (.aload_n 0, 1) := by decide +kernel
theorem dX11_nextOf_13 : decode cX11_nextOf 13 = .ok (.getfield 20, 3) := by decide +kernel
theorem dX11_nextOf_16 : decode cX11_nextOf 16 = .ok (.iload_n 2, 1) := by decide +kernel
theorem dX11_nextOf_17 : decode cX11_nextOf 17 = .ok (.iaload, 1) := by decide +kernel
theorem dX11_nextOf_18 : decode cX11_nextOf 18 = .ok (.aload_n 0, 1) := by decide +kernel
theorem dX11_nextOf_19 : decode cX11_nextOf 19 = .ok (.getfield 20, 3) := by decide +kernel
theorem dX11_nextOf_22 : decode cX11_nextOf 22 = .ok (.iload_n 1, 1) := by decide +kernel
theorem dX11_nextOf_23 : decode cX11_nextOf 23 = .ok (.iaload, 1) := by decide +kernel
theorem dX11_nextOf_24 : decode cX11_nextOf 24 = .ok (.isub, 1) := by decide +kernel
theorem dX11_nextOf_25 : decode cX11_nextOf 25 = .ok (.aload_n 0, 1) := by decide +kernel
theorem dX11_nextOf_26 : decode cX11_nextOf 26 = .ok (.getfield 23, 3) := by decide +kernel
theorem dX11_nextOf_29 : decode cX11_nextOf 29 = .ok (.iload_n 3, 1) := by decide +kernel
theorem dX11_nextOf_30 : decode cX11_nextOf 30 = .ok (.iaload, 1) := by decide +kernel
theorem dX11_nextOf_31 : decode cX11_nextOf 31 = .ok (.aload_n 0, 1) := by decide +kernel
theorem dX11_nextOf_32 : decode cX11_nextOf 32 = .ok (.getfield 23, 3) := by decide +kernel
theorem dX11_nextOf_35 : decode cX11_nextOf 35 = .ok (.iload_n 1, 1) := by decide +kernel
theorem dX11_nextOf_36 : decode cX11_nextOf 36 = .ok (.iaload, 1) := by decide +kernel
theorem dX11_nextOf_37 : decode cX11_nextOf 37 = .ok (.isub, 1) := by decide +kernel
theorem dX11_nextOf_38 : decode cX11_nextOf 38 = .ok (.imul, 1) := by decide +kernel
theorem dX11_nextOf_39 : decode cX11_nextOf 39 = .ok (.aload_n 0, 1) := by decide +kernel
theorem dX11_nextOf_40 : decode cX11_nextOf 40 = .ok (.getfield 23, 3) := by decide +kernel
theorem dX11_nextOf_43 : decode cX11_nextOf 43 = .ok (.iload_n 2, 1) := by decide +kernel
theorem dX11_nextOf_44 : decode cX11_nextOf 44 = .ok (.iaload, 1) := by decide +kernel
theorem dX11_nextOf_45 : decode cX11_nextOf 45 = .ok (.aload_n 0, 1) := by decide +kernel
theorem dX11_nextOf_46 : decode cX11_nextOf 46 = .ok (.getfield 23, 3) := by decide +kernel
theorem dX11_nextOf_49 : decode cX11_nextOf 49 = .ok (.iload_n 1, 1) := by decide +kernel
theorem dX11_nextOf_50 : decode cX11_nextOf 50 = .ok (.iaload, 1) := by decide +kernel
theorem dX11_nextOf_51 : decode cX11_nextOf 51 = .ok (.isub, 1) := by decide +kernel
theorem dX11_nextOf_52 : decode cX11_nextOf 52 = .ok (.aload_n 0, 1) := by decide +kernel
theorem dX11_nextOf_53 : decode cX11_nextOf 53 = .ok (.getfield 20, 3) := by decide +kernel
theorem dX11_nextOf_56 : decode cX11_nextOf 56 = .ok (.iload_n 3, 1) := by decide +kernel
theorem dX11_nextOf_57 : decode cX11_nextOf 57 = .ok (.iaload, 1) := by decide +kernel
theorem dX11_nextOf_58 : decode cX11_nextOf 58 = .ok (.aload_n 0, 1) := by decide +kernel
theorem dX11_nextOf_59 : decode cX11_nextOf 59 = .ok (.getfield 20, 3) := by decide +kernel
theorem dX11_nextOf_62 : decode cX11_nextOf 62 = .ok (.iload_n 1, 1) := by decide +kernel
theorem dX11_nextOf_63 : decode cX11_nextOf 63 = .ok (.iaload, 1) := by decide +kernel
theorem dX11_nextOf_64 : decode cX11_nextOf 64 = .ok (.isub, 1) := by decide +kernel
theorem dX11_nextOf_65 : decode cX11_nextOf 65 = .ok (.imul, 1) := by decide +kernel
theorem dX11_nextOf_66 : decode cX11_nextOf 66 = .ok (.isub, 1) := by decide +kernel
theorem dX11_nextOf_67 : decode cX11_nextOf 67 = .ok (.istore 4, 2) := by decide +kernel
theorem dX11_nextOf_69 : decode cX11_nextOf 69 = .ok (.aload_n 0, 1) := by decide +kernel
theorem dX11_nextOf_70 : decode cX11_nextOf 70 = .ok (.getfield 20, 3) := by decide +kernel
theorem dX11_nextOf_73 : decode cX11_nextOf 73 = .ok (.iload_n 3, 1) := by decide +kernel
theorem dX11_nextOf_74 : decode cX11_nextOf 74 = .ok (.iaload, 1) := by decide +kernel
theorem dX11_nextOf_75 : decode cX11_nextOf 75 = .ok (.aload_n 0, 1) := by decide +kernel
theorem dX11_nextOf_76 : decode cX11_nextOf 76 = .ok (.getfield 20, 3) := by decide +kernel
theorem dX11_nextOf_79 : decode cX11_nextOf 79 = .ok (.iload_n 1, 1) := by decide +kernel
theorem dX11_nextOf_80 : decode cX11_nextOf 80 = .ok (.iaload, 1) := by decide +kernel
theorem dX11_nextOf_81 : decode cX11_nextOf 81 = .ok (.isub, 1) := by decide +kernel
theorem dX11_nextOf_82 : decode cX11_nextOf 82 = .ok (.invokestatic 85, 3) := by decide +kernel
theorem dX11_nextOf_85 : decode cX11_nextOf 85 = .ok (.aload_n 0, 1) := by decide +kernel
theorem dX11_nextOf_86 : decode cX11_nextOf 86 = .ok (.getfield 23, 3) := by decide +kernel
theorem dX11_nextOf_89 : decode cX11_nextOf 89 = .ok (.iload_n 3, 1) := by decide +kernel
theorem dX11_nextOf_90 : decode cX11_nextOf 90 = .ok (.iaload, 1) := by decide +kernel
theorem dX11_nextOf_91 : decode cX11_nextOf 91 = .ok (.aload_n 0, 1) := by decide +kernel
theorem dX11_nextOf_92 : decode cX11_nextOf 92 = .ok (.getfield 23, 3) := by decide +kernel
theorem dX11_nextOf_95 : decode cX11_nextOf 95 = .ok (.iload_n 1, 1) := by decide +kernel
theorem dX11_nextOf_96 : decode cX11_nextOf 96 = .ok (.iaload, 1) := by decide +kernel
theorem dX11_nextOf_97 : decode cX11_nextOf 97 = .ok (.isub, 1) := by decide +kernel
theorem dX11_nextOf_98 : decode cX11_nextOf 98 = .ok (.invokestatic 85, 3) := by decide +kernel
theorem dX11_nextOf_101 : decode cX11_nextOf 101 = .ok (.iadd, 1) := by decide +kernel
theorem dX11_nextOf_102 : decode cX11_nextOf 102 = .ok (.istore 5, 2) := by decide +kernel
theorem dX11_nextOf_104 : decode cX11_nextOf 104 = .ok (.aload_n 0, 1) := by decide +kernel
theorem dX11_nextOf_105 : decode cX11_nextOf 105 = .ok (.getfield 20, 3) := by decide +kernel
theorem dX11_nextOf_108 : decode cX11_nextOf 108 = .ok (.iload_n 2, 1) := by decide +kernel
theorem dX11_nextOf_109 : decode cX11_nextOf 109 = .ok (.iaload, 1) := by decide +kernel
theorem dX11_nextOf_110 : decode cX11_nextOf 110 = .ok (.aload_n 0, 1) := by decide +kernel
theorem dX11_nextOf_111 : decode cX11_nextOf 111 = .ok (.getfield 20, 3) := by decide +kernel
theorem dX11_nextOf_114 : decode cX11_nextOf 114 = .ok (.iload_n 1, 1) := by decide +kernel
theorem dX11_nextOf_115 : decode cX11_nextOf 115 = .ok (.iaload, 1) := by decide +kernel
theorem dX11_nextOf_116 : decode cX11_nextOf 116 = .ok (.isub, 1) := by decide +kernel
theorem dX11_nextOf_117 : decode cX11_nextOf 117 = .ok (.invokestatic 85, 3) := by decide +kernel
theorem dX11_nextOf_120 : decode cX11_nextOf 120 = .ok (.aload_n 0, 1) := by decide +kernel
theorem dX11_nextOf_121 : decode cX11_nextOf 121 = .ok (.getfield 23, 3) := by decide +kernel
theorem dX11_nextOf_124 : decode cX11_nextOf 124 = .ok (.iload_n 2, 1) := by decide +kernel
theorem dX11_nextOf_125 : decode cX11_nextOf 125 = .ok (.iaload, 1) := by decide +kernel
theorem dX11_nextOf_126 : decode cX11_nextOf 126 = .ok (.aload_n 0, 1) := by decide +kernel
theorem dX11_nextOf_127 : decode cX11_nextOf 127 = .ok (.getfield 23, 3) := by decide +kernel
theorem dX11_nextOf_130 : decode cX11_nextOf 130 = .ok (.iload_n 1, 1) := by decide +kernel
theorem dX11_nextOf_131 : decode cX11_nextOf 131 = .ok (.iaload, 1) := by decide +kernel
theorem dX11_nextOf_132 : decode cX11_nextOf 132 = .ok (.isub, 1) := by decide +kernel
theorem dX11_nextOf_133 : decode cX11_nextOf 133 = .ok (.invokestatic 85, 3) := by decide +kernel
theorem dX11_nextOf_136 : decode cX11_nextOf 136 = .ok (.iadd, 1) := by decide +kernel
theorem dX11_nextOf_137 : decode cX11_nextOf 137 = .ok (.istore 6, 2) := by decide +kernel
theorem dX11_nextOf_139 : decode cX11_nextOf 139 = .ok (.iload 6, 2) := by decide +kernel
theorem dX11_nextOf_141 : decode cX11_nextOf 141 = .ok (.ifCond .eq 20, 3) := by decide +kernel
theorem dX11_nextOf_144 : decode cX11_nextOf 144 = .ok (.iload 4, 2) := by decide +kernel
theorem dX11_nextOf_146 : decode cX11_nextOf 146 = .ok (.ifCond .lt 15, 3) := by decide +kernel
theorem dX11_nextOf_149 : decode cX11_nextOf 149 = .ok (.iload 4, 2) := by decide +kernel
theorem dX11_nextOf_151 : decode cX11_nextOf 151 = .ok (.ifCond .ne 14, 3) := by decide +kernel
theorem dX11_nextOf_154 : decode cX11_nextOf 154 = .ok (.iload 5, 2) := by decide +kernel
theorem dX11_nextOf_156 : decode cX11_nextOf 156 = .ok (.iload 6, 2) := by decide +kernel
theorem dX11_nextOf_158 : decode cX11_nextOf 158 = .ok (.if_icmp .le 7, 3) := by decide +kernel
theorem dX11_nextOf_161 : decode cX11_nextOf 161 = .ok (.iload_n 3, 1) := by decide +kernel
theorem dX11_nextOf_162 : decode cX11_nextOf 162 = .ok (.goto 4, 3) := by decide +kernel
theorem dX11_nextOf_165 : decode cX11_nextOf 165 = .ok (.iload_n 2, 1) := by decide +kernel
theorem dX11_nextOf_166 : decode cX11_nextOf 166 = .ok (.istore_n 2, 1) := by decide +kernel
theorem dX11_nextOf_167 : decode cX11_nextOf 167 = .ok (.iinc 3 1, 3) := by decide +kernel
theorem dX11_nextOf_170 : decode cX11_nextOf 170 = .ok (.goto (-166), 3) := by decide +kernel
theorem dX11_nextOf_173 : decode cX11_nextOf 173 = .ok (.iload_n 2, 1) := by decide +kernel
theorem dX11_nextOf_174 : decode cX11_nextOf 174 = .ok (.ireturn, 1) := by decide +kernel
abbrev rmX11_nextOf : Room := { frames := 1, cells := 0, slots := 0, locals := 40 }
abbrev sX11_nextOf (E : EV) : List AV → AH → (Option AV → AH → Prop) → Prop := Spec E yX11_nextOf cX11_nextOf 7 (some .int) rmX11_nextOf
theorem mX11_nextOf : Mt yX11_nextOf cX11_nextOf 7 (some .int) 1 := ⟨k1162, k12, by decide +kernel⟩
theorem vX11_nextOf : MtV yX11_nextOf 11 := ⟨k1161, kp50, by decide, (RX11, TX11, 26), rfl, rfl⟩
def PX11_nextOf_165 (E : EV) (post : Option AV → AH → Prop) (J4 : AH → Option Nat → Int32 → Int32 → Int32 → Prop) (h : AH) (l0 : Option Nat) (l1 : Int32) (l2 : Int32) (l3 : Int32) : Prop :=
  J4 h l0 l1 l2 (l3 + (1 : Int32))
theorem bX11_nextOf_165 {E : EV} {X : AX} {post : Option AV → AH → Prop} (C : Cb E X cX11_nextOf RX11 7 rmX11_nextOf) (D : Cr E X (some .int) rmX11_nextOf "nextOf" post) {J4 : AH → Option Nat → Int32 → Int32 → Int32 → Prop} (g4 : ∀ (h : AH) (l0 : Option Nat) (l1 : Int32) (l2 : Int32) (l3 : Int32), J4 h l0 l1 l2 l3 → Go E X 7 0 0 4 [(0, aP l0), (1, aI l1), (2, aI l2), (3, aI l3)] [] h) {h : AH} {l0 : Option Nat} {l1 : Int32} {l2 : Int32} {l3 : Int32} (w : PX11_nextOf_165 E post J4 h l0 l1 l2 l3) : Go E X 7 0 0 165 [(0, aP l0), (1, aI l1), (2, aI l2), (3, aI l3)] [] h := by
  unfold PX11_nextOf_165 at w
  refine r_iload_n C dX11_nextOf_165 rfl 2 rfl ?_
  refine r_istore_n C dX11_nextOf_166 rfl (by decide) rfl ?_
  refine r_iinc C dX11_nextOf_167 3 rfl (v := 1) rfl (by decide) rfl ?_
  refine r_goto C dX11_nextOf_170 (tgt := 4) rfl ?_
  exact r_sub [2, 3, 1, 0] rfl (g4 h l0 l1 l2 (l3 + (1 : Int32)) w)
def PX11_nextOf_4 (E : EV) (post : Option AV → AH → Prop) (J4 : AH → Option Nat → Int32 → Int32 → Int32 → Prop) (h : AH) (l0 : Option Nat) (l1 : Int32) (l2 : Int32) (l3 : Int32) : Prop :=
  rdI h l0 11 15 fun x1 => (x1 ≤ l3 → post (some (aI l2)) h) ∧ (¬ x1 ≤ l3 → rdP h l0 11 16 fun x2 => aldI h x2 0 l2 fun x3 => rdP h l0 11 16 fun x4 => aldI h x4 0 l1 fun x5 => rdP h l0 11 17 fun x6 => aldI h x6 0 l3 fun x7 => rdP h l0 11 17 fun x8 => aldI h x8 0 l1 fun x9 => rdP h l0 11 17 fun x10 => aldI h x10 0 l2 fun x11 => rdP h l0 11 17 fun x12 => aldI h x12 0 l1 fun x13 => rdP h l0 11 16 fun x14 => aldI h x14 0 l3 fun x15 => rdP h l0 11 16 fun x16 => aldI h x16 0 l1 fun x17 => ∀ v18, v18 = (((x3 - x5) * (x7 - x9)) - ((x11 - x13) * (x15 - x17))) → rdP h l0 11 16 fun x19 => aldI h x19 0 l3 fun x20 => rdP h l0 11 16 fun x21 => aldI h x21 0 l1 fun x22 => CS (sX11_size E) [aI (x20 - x22)] h (kI fun x23 h24 => rdP h24 l0 11 17 fun x25 => aldI h24 x25 0 l3 fun x26 => rdP h24 l0 11 17 fun x27 => aldI h24 x27 0 l1 fun x28 => CS (sX11_size E) [aI (x26 - x28)] h24 (kI fun x29 h30 => ∀ v31, v31 = (x23 + x29) → rdP h30 l0 11 16 fun x32 => aldI h30 x32 0 l2 fun x33 => rdP h30 l0 11 16 fun x34 => aldI h30 x34 0 l1 fun x35 => CS (sX11_size E) [aI (x33 - x35)] h30 (kI fun x36 h37 => rdP h37 l0 11 17 fun x38 => aldI h37 x38 0 l2 fun x39 => rdP h37 l0 11 17 fun x40 => aldI h37 x40 0 l1 fun x41 => CS (sX11_size E) [aI (x39 - x41)] h37 (kI fun x42 h43 => ∀ v44, v44 = (x36 + x42) → (v44 = 0 → J4 h43 l0 l1 l3 (l3 + (1 : Int32))) ∧ (¬ v44 = 0 → (v18 < 0 → J4 h43 l0 l1 l3 (l3 + (1 : Int32))) ∧ (¬ v18 < 0 → (¬ v18 = 0 → PX11_nextOf_165 E post J4 h43 l0 l1 l2 l3) ∧ (v18 = 0 → (v31 ≤ v44 → PX11_nextOf_165 E post J4 h43 l0 l1 l2 l3) ∧ (¬ v31 ≤ v44 → J4 h43 l0 l1 l3 (l3 + (1 : Int32)))))))))))
theorem bX11_nextOf_4 {E : EV} {X : AX} {post : Option AV → AH → Prop} (C : Cb E X cX11_nextOf RX11 7 rmX11_nextOf) (D : Cr E X (some .int) rmX11_nextOf "nextOf" post) {J4 : AH → Option Nat → Int32 → Int32 → Int32 → Prop} (g4 : ∀ (h : AH) (l0 : Option Nat) (l1 : Int32) (l2 : Int32) (l3 : Int32), J4 h l0 l1 l2 l3 → Go E X 7 0 0 4 [(0, aP l0), (1, aI l1), (2, aI l2), (3, aI l3)] [] h) {h : AH} {l0 : Option Nat} {l1 : Int32} {l2 : Int32} {l3 : Int32} (w : PX11_nextOf_4 E post J4 h l0 l1 l2 l3) : Go E X 7 0 0 4 [(0, aP l0), (1, aI l1), (2, aI l2), (3, aI l3)] [] h := by
  unfold PX11_nextOf_4 at w
  refine r_iload_n C dX11_nextOf_4 rfl 3 rfl ?_
  refine r_aload_n C dX11_nextOf_5 rfl 0 rfl ?_
  refine r_getI C fcX11 (f := 15) (by decide) rfl k958 dX11_nextOf_6 (w.mono fun x1 w => ?_)
  refine r_icmp_ge C dX11_nextOf_9 (tgt := 173) rfl (fun hc => ?_) (fun hc => ?_)
  · have w := w.1 hc
    refine r_iload_n C dX11_nextOf_173 rfl 2 rfl ?_
    exact r_iret C D rfl (Nat.zero_le _) (Nat.zero_le _) dX11_nextOf_174 w
  · have w := w.2 hc
    refine r_aload_n C dX11_nextOf_12 rfl 0 rfl ?_
    refine r_getP C fcX11 (f := 16) (by decide) rfl k959 dX11_nextOf_13 (w.mono fun x2 w => ?_)
    refine r_iload_n C dX11_nextOf_16 rfl 2 rfl ?_
    refine r_iald C dX11_nextOf_17 (w.mono fun x3 w => ?_)
    refine r_aload_n C dX11_nextOf_18 rfl 0 rfl ?_
    refine r_getP C fcX11 (f := 16) (by decide) rfl k959 dX11_nextOf_19 (w.mono fun x4 w => ?_)
    refine r_iload_n C dX11_nextOf_22 rfl 1 rfl ?_
    refine r_iald C dX11_nextOf_23 (w.mono fun x5 w => ?_)
    refine r_isub C dX11_nextOf_24 ?_
    refine r_aload_n C dX11_nextOf_25 rfl 0 rfl ?_
    refine r_getP C fcX11 (f := 17) (by decide) rfl k960 dX11_nextOf_26 (w.mono fun x6 w => ?_)
    refine r_iload_n C dX11_nextOf_29 rfl 3 rfl ?_
    refine r_iald C dX11_nextOf_30 (w.mono fun x7 w => ?_)
    refine r_aload_n C dX11_nextOf_31 rfl 0 rfl ?_
    refine r_getP C fcX11 (f := 17) (by decide) rfl k960 dX11_nextOf_32 (w.mono fun x8 w => ?_)
    refine r_iload_n C dX11_nextOf_35 rfl 1 rfl ?_
    refine r_iald C dX11_nextOf_36 (w.mono fun x9 w => ?_)
    refine r_isub C dX11_nextOf_37 ?_
    refine r_imul C dX11_nextOf_38 ?_
    refine r_aload_n C dX11_nextOf_39 rfl 0 rfl ?_
    refine r_getP C fcX11 (f := 17) (by decide) rfl k960 dX11_nextOf_40 (w.mono fun x10 w => ?_)
    refine r_iload_n C dX11_nextOf_43 rfl 2 rfl ?_
    refine r_iald C dX11_nextOf_44 (w.mono fun x11 w => ?_)
    refine r_aload_n C dX11_nextOf_45 rfl 0 rfl ?_
    refine r_getP C fcX11 (f := 17) (by decide) rfl k960 dX11_nextOf_46 (w.mono fun x12 w => ?_)
    refine r_iload_n C dX11_nextOf_49 rfl 1 rfl ?_
    refine r_iald C dX11_nextOf_50 (w.mono fun x13 w => ?_)
    refine r_isub C dX11_nextOf_51 ?_
    refine r_aload_n C dX11_nextOf_52 rfl 0 rfl ?_
    refine r_getP C fcX11 (f := 16) (by decide) rfl k959 dX11_nextOf_53 (w.mono fun x14 w => ?_)
    refine r_iload_n C dX11_nextOf_56 rfl 3 rfl ?_
    refine r_iald C dX11_nextOf_57 (w.mono fun x15 w => ?_)
    refine r_aload_n C dX11_nextOf_58 rfl 0 rfl ?_
    refine r_getP C fcX11 (f := 16) (by decide) rfl k959 dX11_nextOf_59 (w.mono fun x16 w => ?_)
    refine r_iload_n C dX11_nextOf_62 rfl 1 rfl ?_
    refine r_iald C dX11_nextOf_63 (w.mono fun x17 w => ?_)
    refine r_isub C dX11_nextOf_64 ?_
    refine r_imul C dX11_nextOf_65 ?_
    refine r_isub C dX11_nextOf_66 ?_
    refine r_istore C dX11_nextOf_67 (by decide) rfl ?_
    have w := w _ rfl
    skip
    refine r_aload_n C dX11_nextOf_69 rfl 1 rfl ?_
    refine r_getP C fcX11 (f := 16) (by decide) rfl k959 dX11_nextOf_70 (w.mono fun x19 w => ?_)
    refine r_iload_n C dX11_nextOf_73 rfl 4 rfl ?_
    refine r_iald C dX11_nextOf_74 (w.mono fun x20 w => ?_)
    refine r_aload_n C dX11_nextOf_75 rfl 1 rfl ?_
    refine r_getP C fcX11 (f := 16) (by decide) rfl k959 dX11_nextOf_76 (w.mono fun x21 w => ?_)
    refine r_iload_n C dX11_nextOf_79 rfl 2 rfl ?_
    refine r_iald C dX11_nextOf_80 (w.mono fun x22 w => ?_)
    refine r_isub C dX11_nextOf_81 ?_
    refine r_csI (rm' := rmX11_size) C mX11_size vX11_size k1163 [aI (x20 - x22)] [] rfl rfl (Nat.le_of_ble_eq_true rfl) (by decide) ⟨Nat.zero_le _, Nat.zero_le _⟩ 0 0 rfl rfl dX11_nextOf_82 w (fun x23 h24 w => ?_)
    refine r_aload_n C dX11_nextOf_85 rfl 1 rfl ?_
    refine r_getP C fcX11 (f := 17) (by decide) rfl k960 dX11_nextOf_86 (w.mono fun x25 w => ?_)
    refine r_iload_n C dX11_nextOf_89 rfl 4 rfl ?_
    refine r_iald C dX11_nextOf_90 (w.mono fun x26 w => ?_)
    refine r_aload_n C dX11_nextOf_91 rfl 1 rfl ?_
    refine r_getP C fcX11 (f := 17) (by decide) rfl k960 dX11_nextOf_92 (w.mono fun x27 w => ?_)
    refine r_iload_n C dX11_nextOf_95 rfl 2 rfl ?_
    refine r_iald C dX11_nextOf_96 (w.mono fun x28 w => ?_)
    refine r_isub C dX11_nextOf_97 ?_
    refine r_csI (rm' := rmX11_size) C mX11_size vX11_size k1163 [aI (x26 - x28)] [aI x23] rfl rfl (Nat.le_of_ble_eq_true rfl) (by decide) ⟨Nat.zero_le _, Nat.zero_le _⟩ 0 0 rfl rfl dX11_nextOf_98 w (fun x29 h30 w => ?_)
    refine r_iadd C dX11_nextOf_101 ?_
    refine r_istore C dX11_nextOf_102 (by decide) rfl ?_
    have w := w _ rfl
    skip
    refine r_aload_n C dX11_nextOf_104 rfl 2 rfl ?_
    refine r_getP C fcX11 (f := 16) (by decide) rfl k959 dX11_nextOf_105 (w.mono fun x32 w => ?_)
    refine r_iload_n C dX11_nextOf_108 rfl 4 rfl ?_
    refine r_iald C dX11_nextOf_109 (w.mono fun x33 w => ?_)
    refine r_aload_n C dX11_nextOf_110 rfl 2 rfl ?_
    refine r_getP C fcX11 (f := 16) (by decide) rfl k959 dX11_nextOf_111 (w.mono fun x34 w => ?_)
    refine r_iload_n C dX11_nextOf_114 rfl 3 rfl ?_
    refine r_iald C dX11_nextOf_115 (w.mono fun x35 w => ?_)
    refine r_isub C dX11_nextOf_116 ?_
    refine r_csI (rm' := rmX11_size) C mX11_size vX11_size k1163 [aI (x33 - x35)] [] rfl rfl (Nat.le_of_ble_eq_true rfl) (by decide) ⟨Nat.zero_le _, Nat.zero_le _⟩ 0 0 rfl rfl dX11_nextOf_117 w (fun x36 h37 w => ?_)
    refine r_aload_n C dX11_nextOf_120 rfl 2 rfl ?_
    refine r_getP C fcX11 (f := 17) (by decide) rfl k960 dX11_nextOf_121 (w.mono fun x38 w => ?_)
    refine r_iload_n C dX11_nextOf_124 rfl 4 rfl ?_
    refine r_iald C dX11_nextOf_125 (w.mono fun x39 w => ?_)
    refine r_aload_n C dX11_nextOf_126 rfl 2 rfl ?_
    refine r_getP C fcX11 (f := 17) (by decide) rfl k960 dX11_nextOf_127 (w.mono fun x40 w => ?_)
    refine r_iload_n C dX11_nextOf_130 rfl 3 rfl ?_
    refine r_iald C dX11_nextOf_131 (w.mono fun x41 w => ?_)
    refine r_isub C dX11_nextOf_132 ?_
    refine r_csI (rm' := rmX11_size) C mX11_size vX11_size k1163 [aI (x39 - x41)] [aI x36] rfl rfl (Nat.le_of_ble_eq_true rfl) (by decide) ⟨Nat.zero_le _, Nat.zero_le _⟩ 0 0 rfl rfl dX11_nextOf_133 w (fun x42 h43 w => ?_)
    refine r_iadd C dX11_nextOf_136 ?_
    refine r_istore C dX11_nextOf_137 (by decide) rfl ?_
    have w := w _ rfl
    skip
    refine r_iload C dX11_nextOf_139 0 rfl ?_
    refine r_if_eq C dX11_nextOf_141 (tgt := 161) rfl (fun hc => ?_) (fun hc => ?_)
    · have w := w.1 hc
      refine r_iload_n C dX11_nextOf_161 rfl 6 rfl ?_
      refine r_goto C dX11_nextOf_162 (tgt := 166) rfl ?_
      refine r_istore_n C dX11_nextOf_166 rfl (by decide) rfl ?_
      refine r_iinc C dX11_nextOf_167 6 rfl (v := 1) rfl (by decide) rfl ?_
      refine r_goto C dX11_nextOf_170 (tgt := 4) rfl ?_
      exact r_sub [5, 6, 1, 0] rfl (g4 h43 l0 l1 l3 (l3 + (1 : Int32)) w)
    · have w := w.2 hc
      refine r_iload C dX11_nextOf_144 2 rfl ?_
      refine r_if_lt C dX11_nextOf_146 (tgt := 161) rfl (fun hc => ?_) (fun hc => ?_)
      · have w := w.1 hc
        refine r_iload_n C dX11_nextOf_161 rfl 6 rfl ?_
        refine r_goto C dX11_nextOf_162 (tgt := 166) rfl ?_
        refine r_istore_n C dX11_nextOf_166 rfl (by decide) rfl ?_
        refine r_iinc C dX11_nextOf_167 6 rfl (v := 1) rfl (by decide) rfl ?_
        refine r_goto C dX11_nextOf_170 (tgt := 4) rfl ?_
        exact r_sub [5, 6, 1, 0] rfl (g4 h43 l0 l1 l3 (l3 + (1 : Int32)) w)
      · have w := w.2 hc
        refine r_iload C dX11_nextOf_149 2 rfl ?_
        refine r_if_ne C dX11_nextOf_151 (tgt := 165) rfl (fun hc => ?_) (fun hc => ?_)
        · have w := w.1 hc
          exact r_sub [3, 4, 5, 6] rfl (bX11_nextOf_165 C D g4 w)
        · have w := w.2 hc
          refine r_iload C dX11_nextOf_154 1 rfl ?_
          refine r_iload C dX11_nextOf_156 0 rfl ?_
          refine r_icmp_le C dX11_nextOf_158 (tgt := 165) rfl (fun hc => ?_) (fun hc => ?_)
          · have w := w.1 hc
            exact r_sub [3, 4, 5, 6] rfl (bX11_nextOf_165 C D g4 w)
          · have w := w.2 hc
            refine r_iload_n C dX11_nextOf_161 rfl 6 rfl ?_
            refine r_goto C dX11_nextOf_162 (tgt := 166) rfl ?_
            refine r_istore_n C dX11_nextOf_166 rfl (by decide) rfl ?_
            refine r_iinc C dX11_nextOf_167 6 rfl (v := 1) rfl (by decide) rfl ?_
            refine r_goto C dX11_nextOf_170 (tgt := 4) rfl ?_
            exact r_sub [5, 6, 1, 0] rfl (g4 h43 l0 l1 l3 (l3 + (1 : Int32)) w)
theorem lpX11_nextOf_4 {E : EV} {X : AX} {post : Option AV → AH → Prop} (C : Cb E X cX11_nextOf RX11 7 rmX11_nextOf) (D : Cr E X (some .int) rmX11_nextOf "nextOf" post) (I : Nat → AH → Option Nat → Int32 → Int32 → Int32 → Prop) (step : ∀ (z : Nat) (h : AH) (l0 : Option Nat) (l1 : Int32) (l2 : Int32) (l3 : Int32), I z h l0 l1 l2 l3 → PX11_nextOf_4 E post (fun h l0 l1 l2 l3 => ∃ z', z' < z ∧ I z' h l0 l1 l2 l3) h l0 l1 l2 l3) : ∀ (z : Nat) (h : AH) (l0 : Option Nat) (l1 : Int32) (l2 : Int32) (l3 : Int32), I z h l0 l1 l2 l3 → Go E X 7 0 0 4 [(0, aP l0), (1, aI l1), (2, aI l2), (3, aI l3)] [] h := by
  intro z
  induction z using Nat.strongRecOn with
  | _ z ih =>
    intro h l0 l1 l2 l3 hI
    exact bX11_nextOf_4 C D (fun h l0 l1 l2 l3 hJ => by obtain ⟨z', hz, hi⟩ := hJ; exact ih z' hz h l0 l1 l2 l3 hi) (step z h l0 l1 l2 l3 hI)
def PX11_nextOf_0 (E : EV) (post : Option AV → AH → Prop) (J4 : AH → Option Nat → Int32 → Int32 → Int32 → Prop) (h : AH) (l0 : Option Nat) (l1 : Int32) : Prop :=
  J4 h l0 l1 l1 (0 : Int32)
theorem bX11_nextOf_0 {E : EV} {X : AX} {post : Option AV → AH → Prop} (C : Cb E X cX11_nextOf RX11 7 rmX11_nextOf) (D : Cr E X (some .int) rmX11_nextOf "nextOf" post) {J4 : AH → Option Nat → Int32 → Int32 → Int32 → Prop} (g4 : ∀ (h : AH) (l0 : Option Nat) (l1 : Int32) (l2 : Int32) (l3 : Int32), J4 h l0 l1 l2 l3 → Go E X 7 0 0 4 [(0, aP l0), (1, aI l1), (2, aI l2), (3, aI l3)] [] h) {h : AH} {l0 : Option Nat} {l1 : Int32} (w : PX11_nextOf_0 E post J4 h l0 l1) : Go E X 7 0 0 0 [(0, aP l0), (1, aI l1)] [] h := by
  unfold PX11_nextOf_0 at w
  refine r_iload_n C dX11_nextOf_0 rfl 1 rfl ?_
  refine r_istore_n C dX11_nextOf_1 rfl (by decide) rfl ?_
  refine r_iconst (v := 0) C dX11_nextOf_2 rfl ?_
  refine r_istore_n C dX11_nextOf_3 rfl (by decide) rfl ?_
  exact r_sub [2, 3, 1, 0] rfl (g4 h l0 l1 l1 (0 : Int32) w)
theorem eX11_nextOf {E : EV} {post : Option AV → AH → Prop} {h : AH} {l0 : Option Nat} {l1 : Int32} {J4 : AH → Option Nat → Int32 → Int32 → Int32 → Prop} (g4 : ∀ X : AX, Cb E X cX11_nextOf RX11 7 rmX11_nextOf → Cr E X (some .int) rmX11_nextOf "nextOf" post → ∀ (h : AH) (l0 : Option Nat) (l1 : Int32) (l2 : Int32) (l3 : Int32), J4 h l0 l1 l2 l3 → Go E X 7 0 0 4 [(0, aP l0), (1, aI l1), (2, aI l2), (3, aI l3)] [] h) (w : PX11_nextOf_0 E post J4 h l0 l1) : sX11_nextOf E [aP l0, aI l1] h post := Spec.of RX11 rfl rfl (Nat.le_of_ble_eq_true rfl) fun X C D => bX11_nextOf_0 C D (g4 X C D) w
theorem dX11_laysHull_0 : decode cX11_laysHull 0 = .ok (.iconst 0, 1) := by decide +kernel
theorem dX11_laysHull_1 : decode cX11_laysHull 1 = .ok (.istore_n 1, 1) := by decide +kernel
theorem dX11_laysHull_2 : decode cX11_laysHull 2 = .ok (.iconst 1, 1) := by decide +kernel
theorem dX11_laysHull_3 : decode cX11_laysHull 3 = .ok (.istore_n 2, 1) := by decide +kernel
theorem dX11_laysHull_4 : decode cX11_laysHull 4 = .ok (.iload_n 2, 1) := by decide +kernel
theorem dX11_laysHull_5 : decode cX11_laysHull 5 = .ok (.aload_n 0, 1) := by decide +kernel
theorem dX11_laysHull_6 : decode cX11_laysHull 6 = .ok (.getfield 208, 3) := by decide +kernel
theorem dX11_laysHull_9 : decode cX11_laysHull 9 = .ok (.if_icmp .ge 70, 3) := by decide +kernel
theorem dX11_laysHull_12 : decode cX11_laysHull 12 = .ok (.aload_n 0, 1) := by decide +kernel
theorem dX11_laysHull_13 : decode cX11_laysHull 13 = .ok (.getfield 23, 3) := by decide +kernel
theorem dX11_laysHull_16 : decode cX11_laysHull 16 = .ok (.iload_n 2, 1) := by decide +kernel
theorem dX11_laysHull_17 : decode cX11_laysHull 17 = .ok (.iaload, 1) := by decide +kernel
theorem dX11_laysHull_18 : decode cX11_laysHull 18 = .ok (.aload_n 0, 1) := by decide +kernel
theorem dX11_laysHull_19 : decode cX11_laysHull 19 = .ok (.getfield 23, 3) := by decide +kernel
theorem dX11_laysHull_22 : decode cX11_laysHull 22 = .ok (.iload_n 1, 1) := by decide +kernel
theorem dX11_laysHull_23 : decode cX11_laysHull 23 = .ok (.iaload, 1) := by decide +kernel
theorem dX11_laysHull_24 : decode cX11_laysHull 24 = .ok (.if_icmp .lt 33, 3) := by decide +kernel
theorem dX11_laysHull_27 : decode cX11_laysHull 27 = .ok (.aload_n 0, 1) := by decide +kernel
theorem dX11_laysHull_28 : decode cX11_laysHull 28 = .ok (.getfield 23, 3) := by decide +kernel
theorem dX11_laysHull_31 : decode cX11_laysHull 31 = .ok (.iload_n 2, 1) := by decide +kernel
theorem dX11_laysHull_32 : decode cX11_laysHull 32 = .ok (.iaload, 1) := by decide +kernel
theorem dX11_laysHull_33 : decode cX11_laysHull 33 = .ok (.aload_n 0, 1) := by decide +kernel
theorem dX11_laysHull_34 : decode cX11_laysHull 34 = .ok (.getfield 23, 3) := by decide +kernel
theorem dX11_laysHull_37 : decode cX11_laysHull 37 = .ok (.iload_n 1, 1) := by decide +kernel
theorem dX11_laysHull_38 : decode cX11_laysHull 38 = .ok (.iaload, 1) := by decide +kernel
theorem dX11_laysHull_39 : decode cX11_laysHull 39 = .ok (.if_icmp .ne 22, 3) := by decide +kernel
theorem dX11_laysHull_42 : decode cX11_laysHull 42 = .ok (.aload_n 0, 1) := by decide +kernel
theorem dX11_laysHull_43 : decode cX11_laysHull 43 = .ok (.getfield 20, 3) := by decide +kernel
theorem dX11_laysHull_46 : decode cX11_laysHull 46 = .ok (.iload_n 2, 1) := by decide +kernel
theorem dX11_laysHull_47 : decode cX11_laysHull 47 = .ok (.iaload, 1) := by decide +kernel
theorem dX11_laysHull_48 : decode cX11_laysHull 48 = .ok (.aload_n 0, 1) := by decide +kernel
theorem dX11_laysHull_49 : decode cX11_laysHull 49 = .ok (.getfield 20, 3) := by decide +kernel
theorem dX11_laysHull_52 : decode cX11_laysHull 52 = .ok (.iload_n 1, 1) := by decide +kernel
theorem dX11_laysHull_53 : decode cX11_laysHull 53 = .ok (.iaload, 1) := by decide +kernel
theorem dX11_laysHull_54 : decode cX11_laysHull 54 = .ok (.if_icmp .ge 7, 3) := by decide +kernel
theorem dX11_laysHull_57 : decode cX11_laysHull 57 = .ok (.iconst 1, 1) := by decide +kernel
theorem dX11_laysHull_58 : decode cX11_laysHull 58 = .ok (.goto 4, 3) := by decide +kernel
theorem dX11_laysHull_61 : decode cX11_laysHull 61 = .ok (.iconst 0, 1) := by decide +kernel
theorem dX11_laysHull_62 : decode cX11_laysHull 62 = .ok (.istore_n 3, 1) := by decide +kernel
theorem dX11_laysHull_63 : decode cX11_laysHull 63 = .ok (.iload_n 3, 1) := by decide +kernel
theorem dX11_laysHull_64 : decode cX11_laysHull 64 = .ok (.ifCond .eq 7, 3) := by decide +kernel
theorem dX11_laysHull_67 : decode cX11_laysHull 67 = .ok (.iload_n 2, 1) := by decide +kernel
theorem dX11_laysHull_68 : decode cX11_laysHull 68 = .ok (.goto 4, 3) := by decide +kernel
theorem dX11_laysHull_71 : decode cX11_laysHull 71 = .ok (.iload_n 1, 1) := by decide +kernel
theorem dX11_laysHull_72 : decode cX11_laysHull 72 = .ok (.istore_n 1, 1) := by decide +kernel
theorem dX11_laysHull_73 : decode cX11_laysHull 73 = .ok (.iinc 2 1, 3) := by decide +kernel
theorem dX11_laysHull_76 : decode cX11_laysHull 76 = .ok (.goto (-72), 3) := by decide +kernel
theorem dX11_laysHull_79 : decode cX11_laysHull 79 = .ok (.aload_n 0, 1) := by decide +kernel
theorem dX11_laysHull_80 : decode cX11_laysHull 80 = .ok (.iconst 0, 1) := by decide +kernel
theorem dX11_laysHull_81 : decode cX11_laysHull 81 = .ok (.putfield 211, 3) := by decide +kernel
theorem dX11_laysHull_84 : decode cX11_laysHull 84 = .ok (.iload_n 1, 1) := by decide +kernel
theorem dX11_laysHull_85 : decode cX11_laysHull 85 = .ok (.istore_n 2, 1) := by decide +kernel
theorem dX11_laysHull_86 : decode cX11_laysHull 86 = .ok (.aload_n 0, 1) := by decide +kernel
theorem dX11_laysHull_87 : decode cX11_laysHull 87 = .ok (.getfield 211, 3) := by decide +kernel
theorem dX11_laysHull_90 : decode cX11_laysHull 90 = .ok (.ifCond .eq 33, 3) := by decide +kernel
theorem dX11_laysHull_93 : decode cX11_laysHull 93 = .ok (.aload_n 0, 1) := by decide +kernel
theorem dX11_laysHull_94 : decode cX11_laysHull 94 = .ok (.getfield 20, 3) := by decide +kernel
theorem dX11_laysHull_97 : decode cX11_laysHull 97 = .ok (.iload_n 2, 1) := by decide +kernel
theorem dX11_laysHull_98 : decode cX11_laysHull 98 = .ok (.iaload, 1) := by decide +kernel
theorem dX11_laysHull_99 : decode cX11_laysHull 99 = .ok (.aload_n 0, 1) := by decide +kernel
theorem dX11_laysHull_100 : decode cX11_laysHull 100 = .ok (.getfield 20, 3) := by decide +kernel
theorem dX11_laysHull_103 : decode cX11_laysHull 103 = .ok (.iload_n 1, 1) := by decide +kernel
theorem dX11_laysHull_104 : decode cX11_laysHull 104 = .ok (.iaload, 1) := by decide +kernel
theorem dX11_laysHull_105 : decode cX11_laysHull 105 = .ok (.if_icmp .ne 18, 3) := by decide +kernel
theorem dX11_laysHull_108 : decode cX11_laysHull 108 = .ok (.aload_n 0, 1) := by decide +kernel
theorem dX11_laysHull_109 : decode cX11_laysHull 109 = .ok (.getfield 23, 3) := by decide +kernel
theorem dX11_laysHull_112 : decode cX11_laysHull 112 = .ok (.iload_n 2, 1) := by decide +kernel
theorem dX11_laysHull_113 : decode cX11_laysHull 113 = .ok (.iaload, 1) := by decide +kernel
theorem dX11_laysHull_114 : decode cX11_laysHull 114 = .ok (.aload_n 0, 1) := by decide +kernel
theorem dX11_laysHull_115 : decode cX11_laysHull 115 = .ok (.getfield 23, 3) := by decide +kernel
theorem dX11_laysHull_118 : decode cX11_laysHull 118 = .ok (.iload_n 1, 1) := by decide +kernel
theorem dX11_laysHull_119 : decode cX11_laysHull 119 = .ok (.iaload, 1) := by decide +kernel
theorem dX11_laysHull_120 : decode cX11_laysHull 120 = .ok (.if_icmp .eq 52, 3) := by decide +kernel
theorem dX11_laysHull_123 : decode cX11_laysHull 123 = .ok (.aload_n 0, 1) := by decide +kernel
theorem dX11_laysHull_124 : decode cX11_laysHull 124 = .ok (.getfield 26, 3) := by decide +kernel
theorem dX11_laysHull_127 : decode cX11_laysHull 127 = .ok (.aload_n 0, 1) := by decide +kernel
theorem dX11_laysHull_128 : decode cX11_laysHull 128 = .ok (.getfield 211, 3) := by decide +kernel
theorem dX11_laysHull_131 : decode cX11_laysHull 131 = .ok (.aload_n 0, 1) := by decide +kernel
theorem dX11_laysHull_132 : decode cX11_laysHull 132 = .ok (.getfield 20, 3) := by decide +kernel
theorem dX11_laysHull_135 : decode cX11_laysHull 135 = .ok (.iload_n 2, 1) := by decide +kernel
theorem dX11_laysHull_136 : decode cX11_laysHull 136 = .ok (.iaload, 1) := by decide +kernel
theorem dX11_laysHull_137 : decode cX11_laysHull 137 = .ok (.iastore, 1) := by decide +kernel
theorem dX11_laysHull_138 : decode cX11_laysHull 138 = .ok (.aload_n 0, 1) := by decide +kernel
theorem dX11_laysHull_139 : decode cX11_laysHull 139 = .ok (.getfield 29, 3) := by decide +kernel
theorem dX11_laysHull_142 : decode cX11_laysHull 142 = .ok (.aload_n 0, 1) := by decide +kernel
theorem dX11_laysHull_143 : decode cX11_laysHull 143 = .ok (.getfield 211, 3) := by decide +kernel
theorem dX11_laysHull_146 : decode cX11_laysHull 146 = .ok (.aload_n 0, 1) := by decide +kernel
theorem dX11_laysHull_147 : decode cX11_laysHull 147 = .ok (.getfield 23, 3) := by decide +kernel
theorem dX11_laysHull_150 : decode cX11_laysHull 150 = .ok (.iload_n 2, 1) := by decide +kernel
theorem dX11_laysHull_151 : decode cX11_laysHull 151 = .ok (.iaload, 1) := by decide +kernel
theorem dX11_laysHull_152 : decode cX11_laysHull 152 = .ok (.iastore, 1) := by decide +kernel
theorem dX11_laysHull_153 : decode cX11_laysHull 153 = .ok (.aload_n 0, 1) := by decide +kernel
theorem dX11_laysHull_154 : decode cX11_laysHull 154 = .ok (.dup, 1) := by decide +kernel
theorem dX11_laysHull_155 : decode cX11_laysHull 155 = .ok (.getfield 211, 3) := by decide +kernel
theorem dX11_laysHull_158 : decode cX11_laysHull 158 = .ok (.iconst 1, 1) := by decide +kernel
theorem dX11_laysHull_159 : decode cX11_laysHull 159 = .ok (.iadd, 1) := by decide +kernel
theorem dX11_laysHull_160 : decode cX11_laysHull 160 = .ok (.putfield 211, 3) := by decide +kernel
theorem dX11_laysHull_163 : decode cX11_laysHull 163 = .ok (.aload_n 0, 1) := by decide +kernel
theorem dX11_laysHull_164 : decode cX11_laysHull 164 = .ok (.iload_n 2, 1) := by decide +kernel
theorem dX11_laysHull_165 : decode cX11_laysHull 165 = .ok (.invokevirtual 214, 3) := by decide +kernel
theorem dX11_laysHull_168 : decode cX11_laysHull 168 = .ok (.istore_n 2, 1) := by decide +kernel
theorem dX11_laysHull_169 : decode cX11_laysHull 169 = .ok (.goto (-83), 3) := by decide +kernel
theorem dX11_laysHull_172 : decode cX11_laysHull 172 = .ok (.return_, 1) := by decide +kernel
abbrev rmX11_laysHull : Room := { frames := 2, cells := 0, slots := 0, locals := 80 }
abbrev sX11_laysHull (E : EV) : List AV → AH → (Option AV → AH → Prop) → Prop := Spec E yX11_laysHull cX11_laysHull 4 none rmX11_laysHull
theorem mX11_laysHull : Mt yX11_laysHull cX11_laysHull 4 none 0 := ⟨k1158, k12, by decide +kernel⟩
theorem vX11_laysHull : MtV yX11_laysHull 11 := ⟨k1157, kp49, by decide, (RX11, TX11, 26), rfl, rfl⟩
def PX11_laysHull_123 (E : EV) (post : Option AV → AH → Prop) (J86 : AH → Option Nat → Int32 → Int32 → Prop) (h : AH) (l0 : Option Nat) (l1 : Int32) (l2 : Int32) : Prop :=
  rdP h l0 11 19 fun x1 => rdI h l0 11 18 fun x2 => rdP h l0 11 16 fun x3 => aldI h x3 0 l2 fun x4 => astI h x1 0 x2 x4 fun h5 => rdP h5 l0 11 20 fun x6 => rdI h5 l0 11 18 fun x7 => rdP h5 l0 11 17 fun x8 => aldI h5 x8 0 l2 fun x9 => astI h5 x6 0 x7 x9 fun h10 => rdI h10 l0 11 18 fun x11 => wr h10 l0 11 18 (aI (x11 + (1 : Int32))) fun h12 => CV (sX11_nextOf E) l0 11 [aI l2] h12 (kI fun x13 h14 => J86 h14 l0 l1 x13)
theorem bX11_laysHull_123 {E : EV} {X : AX} {post : Option AV → AH → Prop} (C : Cb E X cX11_laysHull RX11 4 rmX11_laysHull) (D : Cr E X none rmX11_laysHull "laysHull" post) {J86 : AH → Option Nat → Int32 → Int32 → Prop} (g86 : ∀ (h : AH) (l0 : Option Nat) (l1 : Int32) (l2 : Int32), J86 h l0 l1 l2 → Go E X 4 0 0 86 [(0, aP l0), (1, aI l1), (2, aI l2)] [] h) {h : AH} {l0 : Option Nat} {l1 : Int32} {l2 : Int32} (w : PX11_laysHull_123 E post J86 h l0 l1 l2) : Go E X 4 0 0 123 [(0, aP l0), (1, aI l1), (2, aI l2)] [] h := by
  unfold PX11_laysHull_123 at w
  refine r_aload_n C dX11_laysHull_123 rfl 0 rfl ?_
  refine r_getP C fcX11 (f := 19) (by decide) rfl k962 dX11_laysHull_124 (w.mono fun x1 w => ?_)
  refine r_aload_n C dX11_laysHull_127 rfl 0 rfl ?_
  refine r_getI C fcX11 (f := 18) (by decide) rfl k961 dX11_laysHull_128 (w.mono fun x2 w => ?_)
  refine r_aload_n C dX11_laysHull_131 rfl 0 rfl ?_
  refine r_getP C fcX11 (f := 16) (by decide) rfl k959 dX11_laysHull_132 (w.mono fun x3 w => ?_)
  refine r_iload_n C dX11_laysHull_135 rfl 2 rfl ?_
  refine r_iald C dX11_laysHull_136 (w.mono fun x4 w => ?_)
  refine r_iast C dX11_laysHull_137 (w.mono fun h5 w => ?_)
  refine r_aload_n C dX11_laysHull_138 rfl 0 rfl ?_
  refine r_getP C fcX11 (f := 20) (by decide) rfl k963 dX11_laysHull_139 (w.mono fun x6 w => ?_)
  refine r_aload_n C dX11_laysHull_142 rfl 0 rfl ?_
  refine r_getI C fcX11 (f := 18) (by decide) rfl k961 dX11_laysHull_143 (w.mono fun x7 w => ?_)
  refine r_aload_n C dX11_laysHull_146 rfl 0 rfl ?_
  refine r_getP C fcX11 (f := 17) (by decide) rfl k960 dX11_laysHull_147 (w.mono fun x8 w => ?_)
  refine r_iload_n C dX11_laysHull_150 rfl 2 rfl ?_
  refine r_iald C dX11_laysHull_151 (w.mono fun x9 w => ?_)
  refine r_iast C dX11_laysHull_152 (w.mono fun h10 w => ?_)
  refine r_aload_n C dX11_laysHull_153 rfl 0 rfl ?_
  refine r_dup C dX11_laysHull_154 rfl ?_
  refine r_getI C fcX11 (f := 18) (by decide) rfl k961 dX11_laysHull_155 (w.mono fun x11 w => ?_)
  refine r_iconst (v := 1) C dX11_laysHull_158 rfl ?_
  refine r_iadd C dX11_laysHull_159 ?_
  refine r_put C fcX11 (f := 18) (by decide) rfl rfl rfl rfl k961 dX11_laysHull_160 (w.mono fun h12 w => ?_)
  refine r_aload_n C dX11_laysHull_163 rfl 0 rfl ?_
  refine r_iload_n C dX11_laysHull_164 rfl 2 rfl ?_
  refine r_cvI (rm' := rmX11_nextOf) C mX11_nextOf vX11_nextOf k1159 [aI l2] [] rfl rfl (Nat.le_of_ble_eq_true rfl) (by decide) ⟨Nat.zero_le _, Nat.zero_le _⟩ 0 0 rfl rfl dX11_laysHull_165 w (fun x13 h14 w => ?_)
  refine r_istore_n C dX11_laysHull_168 rfl (by decide) rfl ?_
  refine r_goto C dX11_laysHull_169 (tgt := 86) rfl ?_
  exact r_sub [1, 2, 0] rfl (g86 h14 l0 l1 x13 w)
def PX11_laysHull_86 (E : EV) (post : Option AV → AH → Prop) (J86 : AH → Option Nat → Int32 → Int32 → Prop) (h : AH) (l0 : Option Nat) (l1 : Int32) (l2 : Int32) : Prop :=
  rdI h l0 11 18 fun x1 => (x1 = 0 → PX11_laysHull_123 E post J86 h l0 l1 l2) ∧ (¬ x1 = 0 → rdP h l0 11 16 fun x2 => aldI h x2 0 l2 fun x3 => rdP h l0 11 16 fun x4 => aldI h x4 0 l1 fun x5 => (¬ x3 = x5 → PX11_laysHull_123 E post J86 h l0 l1 l2) ∧ (x3 = x5 → rdP h l0 11 17 fun x6 => aldI h x6 0 l2 fun x7 => rdP h l0 11 17 fun x8 => aldI h x8 0 l1 fun x9 => (x7 = x9 → post none h) ∧ (¬ x7 = x9 → PX11_laysHull_123 E post J86 h l0 l1 l2)))
theorem bX11_laysHull_86 {E : EV} {X : AX} {post : Option AV → AH → Prop} (C : Cb E X cX11_laysHull RX11 4 rmX11_laysHull) (D : Cr E X none rmX11_laysHull "laysHull" post) {J86 : AH → Option Nat → Int32 → Int32 → Prop} (g86 : ∀ (h : AH) (l0 : Option Nat) (l1 : Int32) (l2 : Int32), J86 h l0 l1 l2 → Go E X 4 0 0 86 [(0, aP l0), (1, aI l1), (2, aI l2)] [] h) {h : AH} {l0 : Option Nat} {l1 : Int32} {l2 : Int32} (w : PX11_laysHull_86 E post J86 h l0 l1 l2) : Go E X 4 0 0 86 [(0, aP l0), (1, aI l1), (2, aI l2)] [] h := by
  unfold PX11_laysHull_86 at w
  refine r_aload_n C dX11_laysHull_86 rfl 0 rfl ?_
  refine r_getI C fcX11 (f := 18) (by decide) rfl k961 dX11_laysHull_87 (w.mono fun x1 w => ?_)
  refine r_if_eq C dX11_laysHull_90 (tgt := 123) rfl (fun hc => ?_) (fun hc => ?_)
  · have w := w.1 hc
    exact (bX11_laysHull_123 C D g86 w)
  · have w := w.2 hc
    refine r_aload_n C dX11_laysHull_93 rfl 0 rfl ?_
    refine r_getP C fcX11 (f := 16) (by decide) rfl k959 dX11_laysHull_94 (w.mono fun x2 w => ?_)
    refine r_iload_n C dX11_laysHull_97 rfl 2 rfl ?_
    refine r_iald C dX11_laysHull_98 (w.mono fun x3 w => ?_)
    refine r_aload_n C dX11_laysHull_99 rfl 0 rfl ?_
    refine r_getP C fcX11 (f := 16) (by decide) rfl k959 dX11_laysHull_100 (w.mono fun x4 w => ?_)
    refine r_iload_n C dX11_laysHull_103 rfl 1 rfl ?_
    refine r_iald C dX11_laysHull_104 (w.mono fun x5 w => ?_)
    refine r_icmp_ne C dX11_laysHull_105 (tgt := 123) rfl (fun hc => ?_) (fun hc => ?_)
    · have w := w.1 hc
      exact (bX11_laysHull_123 C D g86 w)
    · have w := w.2 hc
      refine r_aload_n C dX11_laysHull_108 rfl 0 rfl ?_
      refine r_getP C fcX11 (f := 17) (by decide) rfl k960 dX11_laysHull_109 (w.mono fun x6 w => ?_)
      refine r_iload_n C dX11_laysHull_112 rfl 2 rfl ?_
      refine r_iald C dX11_laysHull_113 (w.mono fun x7 w => ?_)
      refine r_aload_n C dX11_laysHull_114 rfl 0 rfl ?_
      refine r_getP C fcX11 (f := 17) (by decide) rfl k960 dX11_laysHull_115 (w.mono fun x8 w => ?_)
      refine r_iload_n C dX11_laysHull_118 rfl 1 rfl ?_
      refine r_iald C dX11_laysHull_119 (w.mono fun x9 w => ?_)
      refine r_icmp_eq C dX11_laysHull_120 (tgt := 172) rfl (fun hc => ?_) (fun hc => ?_)
      · have w := w.1 hc
        exact r_vret C D rfl (Nat.zero_le _) (Nat.zero_le _) dX11_laysHull_172 w
      · have w := w.2 hc
        exact (bX11_laysHull_123 C D g86 w)
theorem lpX11_laysHull_86 {E : EV} {X : AX} {post : Option AV → AH → Prop} (C : Cb E X cX11_laysHull RX11 4 rmX11_laysHull) (D : Cr E X none rmX11_laysHull "laysHull" post) (I : Nat → AH → Option Nat → Int32 → Int32 → Prop) (step : ∀ (z : Nat) (h : AH) (l0 : Option Nat) (l1 : Int32) (l2 : Int32), I z h l0 l1 l2 → PX11_laysHull_86 E post (fun h l0 l1 l2 => ∃ z', z' < z ∧ I z' h l0 l1 l2) h l0 l1 l2) : ∀ (z : Nat) (h : AH) (l0 : Option Nat) (l1 : Int32) (l2 : Int32), I z h l0 l1 l2 → Go E X 4 0 0 86 [(0, aP l0), (1, aI l1), (2, aI l2)] [] h := by
  intro z
  induction z using Nat.strongRecOn with
  | _ z ih =>
    intro h l0 l1 l2 hI
    exact bX11_laysHull_86 C D (fun h l0 l1 l2 hJ => by obtain ⟨z', hz, hi⟩ := hJ; exact ih z' hz h l0 l1 l2 hi) (step z h l0 l1 l2 hI)
def PX11_laysHull_62 (E : EV) (post : Option AV → AH → Prop) (J4 : AH → Option Nat → Int32 → Int32 → Prop) (h : AH) (l0 : Option Nat) (l1 : Int32) (l2 : Int32) (s0 : Int32) : Prop :=
  (s0 = 0 → J4 h l0 l1 (l2 + (1 : Int32))) ∧ (¬ s0 = 0 → J4 h l0 l2 (l2 + (1 : Int32)))
theorem bX11_laysHull_62 {E : EV} {X : AX} {post : Option AV → AH → Prop} (C : Cb E X cX11_laysHull RX11 4 rmX11_laysHull) (D : Cr E X none rmX11_laysHull "laysHull" post) {J4 : AH → Option Nat → Int32 → Int32 → Prop} (g4 : ∀ (h : AH) (l0 : Option Nat) (l1 : Int32) (l2 : Int32), J4 h l0 l1 l2 → Go E X 4 0 0 4 [(0, aP l0), (1, aI l1), (2, aI l2)] [] h) {h : AH} {l0 : Option Nat} {l1 : Int32} {l2 : Int32} {s0 : Int32} (w : PX11_laysHull_62 E post J4 h l0 l1 l2 s0) : Go E X 4 0 0 62 [(0, aP l0), (1, aI l1), (2, aI l2)] [aI s0] h := by
  unfold PX11_laysHull_62 at w
  refine r_istore_n C dX11_laysHull_62 rfl (by decide) rfl ?_
  refine r_iload_n C dX11_laysHull_63 rfl 0 rfl ?_
  refine r_if_eq C dX11_laysHull_64 (tgt := 71) rfl (fun hc => ?_) (fun hc => ?_)
  · have w := w.1 hc
    refine r_iload_n C dX11_laysHull_71 rfl 2 rfl ?_
    refine r_istore_n C dX11_laysHull_72 rfl (by decide) rfl ?_
    refine r_iinc C dX11_laysHull_73 3 rfl (v := 1) rfl (by decide) rfl ?_
    refine r_goto C dX11_laysHull_76 (tgt := 4) rfl ?_
    exact r_sub [3, 1, 0] rfl (g4 h l0 l1 (l2 + (1 : Int32)) w)
  · have w := w.2 hc
    refine r_iload_n C dX11_laysHull_67 rfl 3 rfl ?_
    refine r_goto C dX11_laysHull_68 (tgt := 72) rfl ?_
    refine r_istore_n C dX11_laysHull_72 rfl (by decide) rfl ?_
    refine r_iinc C dX11_laysHull_73 3 rfl (v := 1) rfl (by decide) rfl ?_
    refine r_goto C dX11_laysHull_76 (tgt := 4) rfl ?_
    exact r_sub [3, 1, 0] rfl (g4 h l0 l2 (l2 + (1 : Int32)) w)
def PX11_laysHull_61 (E : EV) (post : Option AV → AH → Prop) (J4 : AH → Option Nat → Int32 → Int32 → Prop) (h : AH) (l0 : Option Nat) (l1 : Int32) (l2 : Int32) : Prop :=
  PX11_laysHull_62 E post J4 h l0 l1 l2 (0 : Int32)
theorem bX11_laysHull_61 {E : EV} {X : AX} {post : Option AV → AH → Prop} (C : Cb E X cX11_laysHull RX11 4 rmX11_laysHull) (D : Cr E X none rmX11_laysHull "laysHull" post) {J4 : AH → Option Nat → Int32 → Int32 → Prop} (g4 : ∀ (h : AH) (l0 : Option Nat) (l1 : Int32) (l2 : Int32), J4 h l0 l1 l2 → Go E X 4 0 0 4 [(0, aP l0), (1, aI l1), (2, aI l2)] [] h) {h : AH} {l0 : Option Nat} {l1 : Int32} {l2 : Int32} (w : PX11_laysHull_61 E post J4 h l0 l1 l2) : Go E X 4 0 0 61 [(0, aP l0), (1, aI l1), (2, aI l2)] [] h := by
  unfold PX11_laysHull_61 at w
  refine r_iconst (v := 0) C dX11_laysHull_61 rfl ?_
  exact (bX11_laysHull_62 C D g4 w)
def PX11_laysHull_57 (E : EV) (post : Option AV → AH → Prop) (J4 : AH → Option Nat → Int32 → Int32 → Prop) (h : AH) (l0 : Option Nat) (l1 : Int32) (l2 : Int32) : Prop :=
  PX11_laysHull_62 E post J4 h l0 l1 l2 (1 : Int32)
theorem bX11_laysHull_57 {E : EV} {X : AX} {post : Option AV → AH → Prop} (C : Cb E X cX11_laysHull RX11 4 rmX11_laysHull) (D : Cr E X none rmX11_laysHull "laysHull" post) {J4 : AH → Option Nat → Int32 → Int32 → Prop} (g4 : ∀ (h : AH) (l0 : Option Nat) (l1 : Int32) (l2 : Int32), J4 h l0 l1 l2 → Go E X 4 0 0 4 [(0, aP l0), (1, aI l1), (2, aI l2)] [] h) {h : AH} {l0 : Option Nat} {l1 : Int32} {l2 : Int32} (w : PX11_laysHull_57 E post J4 h l0 l1 l2) : Go E X 4 0 0 57 [(0, aP l0), (1, aI l1), (2, aI l2)] [] h := by
  unfold PX11_laysHull_57 at w
  refine r_iconst (v := 1) C dX11_laysHull_57 rfl ?_
  refine r_goto C dX11_laysHull_58 (tgt := 62) rfl ?_
  exact (bX11_laysHull_62 C D g4 w)
def PX11_laysHull_4 (E : EV) (post : Option AV → AH → Prop) (J4 : AH → Option Nat → Int32 → Int32 → Prop) (J86 : AH → Option Nat → Int32 → Int32 → Prop) (h : AH) (l0 : Option Nat) (l1 : Int32) (l2 : Int32) : Prop :=
  rdI h l0 11 15 fun x1 => (x1 ≤ l2 → wr h l0 11 18 (aI (0 : Int32)) fun h2 => J86 h2 l0 l1 l1) ∧ (¬ x1 ≤ l2 → rdP h l0 11 17 fun x2 => aldI h x2 0 l2 fun x3 => rdP h l0 11 17 fun x4 => aldI h x4 0 l1 fun x5 => (x3 < x5 → PX11_laysHull_57 E post J4 h l0 l1 l2) ∧ (¬ x3 < x5 → rdP h l0 11 17 fun x6 => aldI h x6 0 l2 fun x7 => rdP h l0 11 17 fun x8 => aldI h x8 0 l1 fun x9 => (¬ x7 = x9 → PX11_laysHull_61 E post J4 h l0 l1 l2) ∧ (x7 = x9 → rdP h l0 11 16 fun x10 => aldI h x10 0 l2 fun x11 => rdP h l0 11 16 fun x12 => aldI h x12 0 l1 fun x13 => (x13 ≤ x11 → PX11_laysHull_61 E post J4 h l0 l1 l2) ∧ (¬ x13 ≤ x11 → PX11_laysHull_57 E post J4 h l0 l1 l2))))
theorem bX11_laysHull_4 {E : EV} {X : AX} {post : Option AV → AH → Prop} (C : Cb E X cX11_laysHull RX11 4 rmX11_laysHull) (D : Cr E X none rmX11_laysHull "laysHull" post) {J4 : AH → Option Nat → Int32 → Int32 → Prop} (g4 : ∀ (h : AH) (l0 : Option Nat) (l1 : Int32) (l2 : Int32), J4 h l0 l1 l2 → Go E X 4 0 0 4 [(0, aP l0), (1, aI l1), (2, aI l2)] [] h) {J86 : AH → Option Nat → Int32 → Int32 → Prop} (g86 : ∀ (h : AH) (l0 : Option Nat) (l1 : Int32) (l2 : Int32), J86 h l0 l1 l2 → Go E X 4 0 0 86 [(0, aP l0), (1, aI l1), (2, aI l2)] [] h) {h : AH} {l0 : Option Nat} {l1 : Int32} {l2 : Int32} (w : PX11_laysHull_4 E post J4 J86 h l0 l1 l2) : Go E X 4 0 0 4 [(0, aP l0), (1, aI l1), (2, aI l2)] [] h := by
  unfold PX11_laysHull_4 at w
  refine r_iload_n C dX11_laysHull_4 rfl 2 rfl ?_
  refine r_aload_n C dX11_laysHull_5 rfl 0 rfl ?_
  refine r_getI C fcX11 (f := 15) (by decide) rfl k958 dX11_laysHull_6 (w.mono fun x1 w => ?_)
  refine r_icmp_ge C dX11_laysHull_9 (tgt := 79) rfl (fun hc => ?_) (fun hc => ?_)
  · have w := w.1 hc
    refine r_aload_n C dX11_laysHull_79 rfl 0 rfl ?_
    refine r_iconst (v := 0) C dX11_laysHull_80 rfl ?_
    refine r_put C fcX11 (f := 18) (by decide) rfl rfl rfl rfl k961 dX11_laysHull_81 (w.mono fun h2 w => ?_)
    refine r_iload_n C dX11_laysHull_84 rfl 1 rfl ?_
    refine r_istore_n C dX11_laysHull_85 rfl (by decide) rfl ?_
    exact r_sub [1, 2, 0] rfl (g86 h2 l0 l1 l1 w)
  · have w := w.2 hc
    refine r_aload_n C dX11_laysHull_12 rfl 0 rfl ?_
    refine r_getP C fcX11 (f := 17) (by decide) rfl k960 dX11_laysHull_13 (w.mono fun x2 w => ?_)
    refine r_iload_n C dX11_laysHull_16 rfl 2 rfl ?_
    refine r_iald C dX11_laysHull_17 (w.mono fun x3 w => ?_)
    refine r_aload_n C dX11_laysHull_18 rfl 0 rfl ?_
    refine r_getP C fcX11 (f := 17) (by decide) rfl k960 dX11_laysHull_19 (w.mono fun x4 w => ?_)
    refine r_iload_n C dX11_laysHull_22 rfl 1 rfl ?_
    refine r_iald C dX11_laysHull_23 (w.mono fun x5 w => ?_)
    refine r_icmp_lt C dX11_laysHull_24 (tgt := 57) rfl (fun hc => ?_) (fun hc => ?_)
    · have w := w.1 hc
      exact (bX11_laysHull_57 C D g4 w)
    · have w := w.2 hc
      refine r_aload_n C dX11_laysHull_27 rfl 0 rfl ?_
      refine r_getP C fcX11 (f := 17) (by decide) rfl k960 dX11_laysHull_28 (w.mono fun x6 w => ?_)
      refine r_iload_n C dX11_laysHull_31 rfl 2 rfl ?_
      refine r_iald C dX11_laysHull_32 (w.mono fun x7 w => ?_)
      refine r_aload_n C dX11_laysHull_33 rfl 0 rfl ?_
      refine r_getP C fcX11 (f := 17) (by decide) rfl k960 dX11_laysHull_34 (w.mono fun x8 w => ?_)
      refine r_iload_n C dX11_laysHull_37 rfl 1 rfl ?_
      refine r_iald C dX11_laysHull_38 (w.mono fun x9 w => ?_)
      refine r_icmp_ne C dX11_laysHull_39 (tgt := 61) rfl (fun hc => ?_) (fun hc => ?_)
      · have w := w.1 hc
        exact (bX11_laysHull_61 C D g4 w)
      · have w := w.2 hc
        refine r_aload_n C dX11_laysHull_42 rfl 0 rfl ?_
        refine r_getP C fcX11 (f := 16) (by decide) rfl k959 dX11_laysHull_43 (w.mono fun x10 w => ?_)
        refine r_iload_n C dX11_laysHull_46 rfl 2 rfl ?_
        refine r_iald C dX11_laysHull_47 (w.mono fun x11 w => ?_)
        refine r_aload_n C dX11_laysHull_48 rfl 0 rfl ?_
        refine r_getP C fcX11 (f := 16) (by decide) rfl k959 dX11_laysHull_49 (w.mono fun x12 w => ?_)
        refine r_iload_n C dX11_laysHull_52 rfl 1 rfl ?_
        refine r_iald C dX11_laysHull_53 (w.mono fun x13 w => ?_)
        refine r_icmp_ge C dX11_laysHull_54 (tgt := 61) rfl (fun hc => ?_) (fun hc => ?_)
        · have w := w.1 hc
          exact (bX11_laysHull_61 C D g4 w)
        · have w := w.2 hc
          exact (bX11_laysHull_57 C D g4 w)
theorem lpX11_laysHull_4 {E : EV} {X : AX} {post : Option AV → AH → Prop} (C : Cb E X cX11_laysHull RX11 4 rmX11_laysHull) (D : Cr E X none rmX11_laysHull "laysHull" post) {J86 : AH → Option Nat → Int32 → Int32 → Prop} (g86 : ∀ (h : AH) (l0 : Option Nat) (l1 : Int32) (l2 : Int32), J86 h l0 l1 l2 → Go E X 4 0 0 86 [(0, aP l0), (1, aI l1), (2, aI l2)] [] h) (I : Nat → AH → Option Nat → Int32 → Int32 → Prop) (step : ∀ (z : Nat) (h : AH) (l0 : Option Nat) (l1 : Int32) (l2 : Int32), I z h l0 l1 l2 → PX11_laysHull_4 E post (fun h l0 l1 l2 => ∃ z', z' < z ∧ I z' h l0 l1 l2) J86 h l0 l1 l2) : ∀ (z : Nat) (h : AH) (l0 : Option Nat) (l1 : Int32) (l2 : Int32), I z h l0 l1 l2 → Go E X 4 0 0 4 [(0, aP l0), (1, aI l1), (2, aI l2)] [] h := by
  intro z
  induction z using Nat.strongRecOn with
  | _ z ih =>
    intro h l0 l1 l2 hI
    exact bX11_laysHull_4 C D (fun h l0 l1 l2 hJ => by obtain ⟨z', hz, hi⟩ := hJ; exact ih z' hz h l0 l1 l2 hi) g86 (step z h l0 l1 l2 hI)
def PX11_laysHull_0 (E : EV) (post : Option AV → AH → Prop) (J4 : AH → Option Nat → Int32 → Int32 → Prop) (h : AH) (l0 : Option Nat) : Prop :=
  J4 h l0 (0 : Int32) (1 : Int32)
theorem bX11_laysHull_0 {E : EV} {X : AX} {post : Option AV → AH → Prop} (C : Cb E X cX11_laysHull RX11 4 rmX11_laysHull) (D : Cr E X none rmX11_laysHull "laysHull" post) {J4 : AH → Option Nat → Int32 → Int32 → Prop} (g4 : ∀ (h : AH) (l0 : Option Nat) (l1 : Int32) (l2 : Int32), J4 h l0 l1 l2 → Go E X 4 0 0 4 [(0, aP l0), (1, aI l1), (2, aI l2)] [] h) {h : AH} {l0 : Option Nat} (w : PX11_laysHull_0 E post J4 h l0) : Go E X 4 0 0 0 [(0, aP l0)] [] h := by
  unfold PX11_laysHull_0 at w
  refine r_iconst (v := 0) C dX11_laysHull_0 rfl ?_
  refine r_istore_n C dX11_laysHull_1 rfl (by decide) rfl ?_
  refine r_iconst (v := 1) C dX11_laysHull_2 rfl ?_
  refine r_istore_n C dX11_laysHull_3 rfl (by decide) rfl ?_
  exact r_sub [2, 1, 0] rfl (g4 h l0 (0 : Int32) (1 : Int32) w)
theorem eX11_laysHull {E : EV} {post : Option AV → AH → Prop} {h : AH} {l0 : Option Nat} {J4 : AH → Option Nat → Int32 → Int32 → Prop} (g4 : ∀ X : AX, Cb E X cX11_laysHull RX11 4 rmX11_laysHull → Cr E X none rmX11_laysHull "laysHull" post → ∀ (h : AH) (l0 : Option Nat) (l1 : Int32) (l2 : Int32), J4 h l0 l1 l2 → Go E X 4 0 0 4 [(0, aP l0), (1, aI l1), (2, aI l2)] [] h) (w : PX11_laysHull_0 E post J4 h l0) : sX11_laysHull E [aP l0] h post := Spec.of RX11 rfl rfl (Nat.le_of_ble_eq_true rfl) fun X C D => bX11_laysHull_0 C D (g4 X C D) w
theorem dX11_laysShapeHull_0 : decode cX11_laysShapeHull 0 = .ok (.aload_n 0, 1) := by decide +kernel
theorem dX11_laysShapeHull_1 : decode cX11_laysShapeHull 1 = .ok (.iconst 0, 1) := by decide +kernel
theorem dX11_laysShapeHull_2 : decode cX11_laysShapeHull 2 = .ok (.putfield 208, 3) := by decide +kernel
theorem dX11_laysShapeHull_5 : decode cX11_laysShapeHull 5 = .ok (.iconst 0, 1) := by decide +kernel
theorem dX11_laysShapeHull_6 : decode cX11_laysShapeHull 6 = .ok (.istore_n 2, 1) := by decide +kernel
theorem dX11_laysShapeHull_7 : decode cX11_laysShapeHull 7 = .ok (.iload_n 2, 1) := by decide +kernel
theorem dX11_laysShapeHull_8 : decode cX11_laysShapeHull 8 = .ok (.aload_n 0, 1) := by decide +kernel
theorem dX11_laysShapeHull_9 : decode cX11_laysShapeHull 9 = .ok (.iload_n 1, 1) := by decide +kernel
theorem dX11_laysShapeHull_10 : decode cX11_laysShapeHull 10 = .ok (.invokevirtual 66, 3) := by decide +kernel
theorem dX11_laysShapeHull_13 : decode cX11_laysShapeHull 13 = .ok (.if_icmp .ge 45, 3) := by decide +kernel
theorem dX11_laysShapeHull_16 : decode cX11_laysShapeHull 16 = .ok (.iconst 0, 1) := by decide +kernel
theorem dX11_laysShapeHull_17 : decode cX11_laysShapeHull 17 = .ok (.istore_n 3, 1) := by decide +kernel
theorem dX11_laysShapeHull_18 : decode cX11_laysShapeHull 18 = .ok (.iload_n 3, 1) := by decide +kernel
theorem dX11_laysShapeHull_19 : decode cX11_laysShapeHull 19 = .ok (.aload_n 0, 1) := by decide +kernel
theorem dX11_laysShapeHull_20 : decode cX11_laysShapeHull 20 = .ok (.iload_n 1, 1) := by decide +kernel
theorem dX11_laysShapeHull_21 : decode cX11_laysShapeHull 21 = .ok (.iload_n 2, 1) := by decide +kernel
theorem dX11_laysShapeHull_22 : decode cX11_laysShapeHull 22 = .ok (.invokevirtual 54, 3) := by decide +kernel
theorem dX11_laysShapeHull_25 : decode cX11_laysShapeHull 25 = .ok (.if_icmp .ge 27, 3) := by decide +kernel
theorem dX11_laysShapeHull_28 : decode cX11_laysShapeHull 28 = .ok (.aload_n 0, 1) := by decide +kernel
theorem dX11_laysShapeHull_29 : decode cX11_laysShapeHull 29 = .ok (.aload_n 0, 1) := by decide +kernel
theorem dX11_laysShapeHull_30 : decode cX11_laysShapeHull 30 = .ok (.iload_n 1, 1) := by decide +kernel
theorem dX11_laysShapeHull_31 : decode cX11_laysShapeHull 31 = .ok (.iload_n 2, 1) := by decide +kernel
theorem dX11_laysShapeHull_32 : decode cX11_laysShapeHull 32 = .ok (.iload_n 3, 1) := by decide +kernel
theorem dX11_laysShapeHull_33 : decode cX11_laysShapeHull 33 = .ok (.invokevirtual 58, 3) := by decide +kernel
theorem dX11_laysShapeHull_36 : decode cX11_laysShapeHull 36 = .ok (.aload_n 0, 1) := by decide +kernel
theorem dX11_laysShapeHull_37 : decode cX11_laysShapeHull 37 = .ok (.iload_n 1, 1) := by decide +kernel
theorem dX11_laysShapeHull_38 : decode cX11_laysShapeHull 38 = .ok (.iload_n 2, 1) := by decide +kernel
theorem dX11_laysShapeHull_39 : decode cX11_laysShapeHull 39 = .ok (.iload_n 3, 1) := by decide +kernel
theorem dX11_laysShapeHull_40 : decode cX11_laysShapeHull 40 = .ok (.invokevirtual 62, 3) := by decide +kernel
theorem dX11_laysShapeHull_43 : decode cX11_laysShapeHull 43 = .ok (.invokevirtual 217, 3) := by decide +kernel
theorem dX11_laysShapeHull_46 : decode cX11_laysShapeHull 46 = .ok (.iinc 3 1, 3) := by decide +kernel
theorem dX11_laysShapeHull_49 : decode cX11_laysShapeHull 49 = .ok (.goto (-31), 3) := by decide +kernel
theorem dX11_laysShapeHull_52 : decode cX11_laysShapeHull 52 = .ok (.iinc 2 1, 3) := by decide +kernel
theorem dX11_laysShapeHull_55 : decode cX11_laysShapeHull 55 = .ok (.goto (-48), 3) := by decide +kernel
theorem dX11_laysShapeHull_58 : decode cX11_laysShapeHull 58 = .ok (.aload_n 0, 1) := by decide +kernel
theorem dX11_laysShapeHull_59 : decode cX11_laysShapeHull 59 = .ok (.invokevirtual 220, 3) := by decide +kernel
theorem dX11_laysShapeHull_62 : decode cX11_laysShapeHull 62 = .ok (.return_, 1) := by decide +kernel
abbrev rmX11_laysShapeHull : Room := { frames := 3, cells := 0, slots := 0, locals := 120 }
abbrev sX11_laysShapeHull (E : EV) : List AV → AH → (Option AV → AH → Prop) → Prop := Spec E yX11_laysShapeHull cX11_laysShapeHull 4 none rmX11_laysShapeHull
theorem mX11_laysShapeHull : Mt yX11_laysShapeHull cX11_laysShapeHull 4 none 1 := ⟨k1150, k12, by decide +kernel⟩
theorem vX11_laysShapeHull : MtV yX11_laysShapeHull 11 := ⟨k1149, kp47, by decide, (RX11, TX11, 26), rfl, rfl⟩
def PX11_laysShapeHull_18 (E : EV) (post : Option AV → AH → Prop) (J7 : AH → Option Nat → Int32 → Int32 → Prop) (J18 : AH → Option Nat → Int32 → Int32 → Int32 → Prop) (h : AH) (l0 : Option Nat) (l1 : Int32) (l2 : Int32) (l3 : Int32) : Prop :=
  CV (sX11_vertices E) l0 11 [aI l1, aI l2] h (kI fun x1 h2 => (x1 ≤ l3 → J7 h2 l0 l1 (l2 + (1 : Int32))) ∧ (¬ x1 ≤ l3 → CV (sX11_xOf E) l0 11 [aI l1, aI l2, aI l3] h2 (kI fun x3 h4 => CV (sX11_yOf E) l0 11 [aI l1, aI l2, aI l3] h4 (kI fun x5 h6 => CV (sX11_point E) l0 11 [aI x3, aI x5] h6 (kV fun h8 => J18 h8 l0 l1 l2 (l3 + (1 : Int32)))))))
theorem bX11_laysShapeHull_18 {E : EV} {X : AX} {post : Option AV → AH → Prop} (C : Cb E X cX11_laysShapeHull RX11 4 rmX11_laysShapeHull) (D : Cr E X none rmX11_laysShapeHull "laysShapeHull" post) {J7 : AH → Option Nat → Int32 → Int32 → Prop} (g7 : ∀ (h : AH) (l0 : Option Nat) (l1 : Int32) (l2 : Int32), J7 h l0 l1 l2 → Go E X 4 0 0 7 [(0, aP l0), (1, aI l1), (2, aI l2)] [] h) {J18 : AH → Option Nat → Int32 → Int32 → Int32 → Prop} (g18 : ∀ (h : AH) (l0 : Option Nat) (l1 : Int32) (l2 : Int32) (l3 : Int32), J18 h l0 l1 l2 l3 → Go E X 4 0 0 18 [(0, aP l0), (1, aI l1), (2, aI l2), (3, aI l3)] [] h) {h : AH} {l0 : Option Nat} {l1 : Int32} {l2 : Int32} {l3 : Int32} (w : PX11_laysShapeHull_18 E post J7 J18 h l0 l1 l2 l3) : Go E X 4 0 0 18 [(0, aP l0), (1, aI l1), (2, aI l2), (3, aI l3)] [] h := by
  unfold PX11_laysShapeHull_18 at w
  refine r_iload_n C dX11_laysShapeHull_18 rfl 3 rfl ?_
  refine r_aload_n C dX11_laysShapeHull_19 rfl 0 rfl ?_
  refine r_iload_n C dX11_laysShapeHull_20 rfl 1 rfl ?_
  refine r_iload_n C dX11_laysShapeHull_21 rfl 2 rfl ?_
  refine r_cvI (rm' := rmX11_vertices) C mX11_vertices vX11_vertices k1072 [aI l1, aI l2] [aI l3] rfl rfl (Nat.le_of_ble_eq_true rfl) (by decide) ⟨Nat.zero_le _, Nat.zero_le _⟩ 0 0 rfl rfl dX11_laysShapeHull_22 w (fun x1 h2 w => ?_)
  refine r_icmp_ge C dX11_laysShapeHull_25 (tgt := 52) rfl (fun hc => ?_) (fun hc => ?_)
  · have w := w.1 hc
    refine r_iinc C dX11_laysShapeHull_52 2 rfl (v := 1) rfl (by decide) rfl ?_
    refine r_goto C dX11_laysShapeHull_55 (tgt := 7) rfl ?_
    exact r_sub [1, 2, 0] rfl (g7 h2 l0 l1 (l2 + (1 : Int32)) w)
  · have w := w.2 hc
    refine r_aload_n C dX11_laysShapeHull_28 rfl 0 rfl ?_
    refine r_aload_n C dX11_laysShapeHull_29 rfl 0 rfl ?_
    refine r_iload_n C dX11_laysShapeHull_30 rfl 1 rfl ?_
    refine r_iload_n C dX11_laysShapeHull_31 rfl 2 rfl ?_
    refine r_iload_n C dX11_laysShapeHull_32 rfl 3 rfl ?_
    refine r_cvI (rm' := rmX11_xOf) C mX11_xOf vX11_xOf k1076 [aI l1, aI l2, aI l3] [aP l0] rfl rfl (Nat.le_of_ble_eq_true rfl) (by decide) ⟨Nat.zero_le _, Nat.zero_le _⟩ 0 0 rfl rfl dX11_laysShapeHull_33 w (fun x3 h4 w => ?_)
    refine r_aload_n C dX11_laysShapeHull_36 rfl 0 rfl ?_
    refine r_iload_n C dX11_laysShapeHull_37 rfl 1 rfl ?_
    refine r_iload_n C dX11_laysShapeHull_38 rfl 2 rfl ?_
    refine r_iload_n C dX11_laysShapeHull_39 rfl 3 rfl ?_
    refine r_cvI (rm' := rmX11_yOf) C mX11_yOf vX11_yOf k1080 [aI l1, aI l2, aI l3] [aI x3, aP l0] rfl rfl (Nat.le_of_ble_eq_true rfl) (by decide) ⟨Nat.zero_le _, Nat.zero_le _⟩ 0 0 rfl rfl dX11_laysShapeHull_40 w (fun x5 h6 w => ?_)
    refine r_cvV (rm' := rmX11_point) C mX11_point vX11_point k1151 [aI x3, aI x5] [] rfl rfl (Nat.le_of_ble_eq_true rfl) (by decide) ⟨Nat.zero_le _, Nat.zero_le _⟩ 0 0 rfl rfl dX11_laysShapeHull_43 w (fun h8 w => ?_)
    refine r_iinc C dX11_laysShapeHull_46 3 rfl (v := 1) rfl (by decide) rfl ?_
    refine r_goto C dX11_laysShapeHull_49 (tgt := 18) rfl ?_
    exact r_sub [1, 2, 3, 0] rfl (g18 h8 l0 l1 l2 (l3 + (1 : Int32)) w)
theorem lpX11_laysShapeHull_18 {E : EV} {X : AX} {post : Option AV → AH → Prop} (C : Cb E X cX11_laysShapeHull RX11 4 rmX11_laysShapeHull) (D : Cr E X none rmX11_laysShapeHull "laysShapeHull" post) {J7 : AH → Option Nat → Int32 → Int32 → Prop} (g7 : ∀ (h : AH) (l0 : Option Nat) (l1 : Int32) (l2 : Int32), J7 h l0 l1 l2 → Go E X 4 0 0 7 [(0, aP l0), (1, aI l1), (2, aI l2)] [] h) (I : Nat → AH → Option Nat → Int32 → Int32 → Int32 → Prop) (step : ∀ (z : Nat) (h : AH) (l0 : Option Nat) (l1 : Int32) (l2 : Int32) (l3 : Int32), I z h l0 l1 l2 l3 → PX11_laysShapeHull_18 E post J7 (fun h l0 l1 l2 l3 => ∃ z', z' < z ∧ I z' h l0 l1 l2 l3) h l0 l1 l2 l3) : ∀ (z : Nat) (h : AH) (l0 : Option Nat) (l1 : Int32) (l2 : Int32) (l3 : Int32), I z h l0 l1 l2 l3 → Go E X 4 0 0 18 [(0, aP l0), (1, aI l1), (2, aI l2), (3, aI l3)] [] h := by
  intro z
  induction z using Nat.strongRecOn with
  | _ z ih =>
    intro h l0 l1 l2 l3 hI
    exact bX11_laysShapeHull_18 C D g7 (fun h l0 l1 l2 l3 hJ => by obtain ⟨z', hz, hi⟩ := hJ; exact ih z' hz h l0 l1 l2 l3 hi) (step z h l0 l1 l2 l3 hI)
def PX11_laysShapeHull_7 (E : EV) (post : Option AV → AH → Prop) (J18 : AH → Option Nat → Int32 → Int32 → Int32 → Prop) (h : AH) (l0 : Option Nat) (l1 : Int32) (l2 : Int32) : Prop :=
  CV (sX11_pieces E) l0 11 [aI l1] h (kI fun x1 h2 => (x1 ≤ l2 → CV (sX11_laysHull E) l0 11 [] h2 (kV fun h4 => post none h4)) ∧ (¬ x1 ≤ l2 → J18 h2 l0 l1 l2 (0 : Int32)))
theorem bX11_laysShapeHull_7 {E : EV} {X : AX} {post : Option AV → AH → Prop} (C : Cb E X cX11_laysShapeHull RX11 4 rmX11_laysShapeHull) (D : Cr E X none rmX11_laysShapeHull "laysShapeHull" post) {J18 : AH → Option Nat → Int32 → Int32 → Int32 → Prop} (g18 : ∀ (h : AH) (l0 : Option Nat) (l1 : Int32) (l2 : Int32) (l3 : Int32), J18 h l0 l1 l2 l3 → Go E X 4 0 0 18 [(0, aP l0), (1, aI l1), (2, aI l2), (3, aI l3)] [] h) {h : AH} {l0 : Option Nat} {l1 : Int32} {l2 : Int32} (w : PX11_laysShapeHull_7 E post J18 h l0 l1 l2) : Go E X 4 0 0 7 [(0, aP l0), (1, aI l1), (2, aI l2)] [] h := by
  unfold PX11_laysShapeHull_7 at w
  refine r_iload_n C dX11_laysShapeHull_7 rfl 2 rfl ?_
  refine r_aload_n C dX11_laysShapeHull_8 rfl 0 rfl ?_
  refine r_iload_n C dX11_laysShapeHull_9 rfl 1 rfl ?_
  refine r_cvI (rm' := rmX11_pieces) C mX11_pieces vX11_pieces k1115 [aI l1] [aI l2] rfl rfl (Nat.le_of_ble_eq_true rfl) (by decide) ⟨Nat.zero_le _, Nat.zero_le _⟩ 0 0 rfl rfl dX11_laysShapeHull_10 w (fun x1 h2 w => ?_)
  refine r_icmp_ge C dX11_laysShapeHull_13 (tgt := 58) rfl (fun hc => ?_) (fun hc => ?_)
  · have w := w.1 hc
    refine r_aload_n C dX11_laysShapeHull_58 rfl 0 rfl ?_
    refine r_cvV (rm' := rmX11_laysHull) C mX11_laysHull vX11_laysHull k1155 [] [] rfl rfl (Nat.le_of_ble_eq_true rfl) (by decide) ⟨Nat.zero_le _, Nat.zero_le _⟩ 0 0 rfl rfl dX11_laysShapeHull_59 w (fun h4 w => ?_)
    exact r_vret C D rfl (Nat.zero_le _) (Nat.zero_le _) dX11_laysShapeHull_62 w
  · have w := w.2 hc
    refine r_iconst (v := 0) C dX11_laysShapeHull_16 rfl ?_
    refine r_istore_n C dX11_laysShapeHull_17 rfl (by decide) rfl ?_
    exact r_sub [1, 2, 3, 0] rfl (g18 h2 l0 l1 l2 (0 : Int32) w)
def PX11_laysShapeHull_0 (E : EV) (post : Option AV → AH → Prop) (J7 : AH → Option Nat → Int32 → Int32 → Prop) (h : AH) (l0 : Option Nat) (l1 : Int32) : Prop :=
  wr h l0 11 15 (aI (0 : Int32)) fun h1 => J7 h1 l0 l1 (0 : Int32)
theorem bX11_laysShapeHull_0 {E : EV} {X : AX} {post : Option AV → AH → Prop} (C : Cb E X cX11_laysShapeHull RX11 4 rmX11_laysShapeHull) (D : Cr E X none rmX11_laysShapeHull "laysShapeHull" post) {J7 : AH → Option Nat → Int32 → Int32 → Prop} (g7 : ∀ (h : AH) (l0 : Option Nat) (l1 : Int32) (l2 : Int32), J7 h l0 l1 l2 → Go E X 4 0 0 7 [(0, aP l0), (1, aI l1), (2, aI l2)] [] h) {h : AH} {l0 : Option Nat} {l1 : Int32} (w : PX11_laysShapeHull_0 E post J7 h l0 l1) : Go E X 4 0 0 0 [(0, aP l0), (1, aI l1)] [] h := by
  unfold PX11_laysShapeHull_0 at w
  refine r_aload_n C dX11_laysShapeHull_0 rfl 0 rfl ?_
  refine r_iconst (v := 0) C dX11_laysShapeHull_1 rfl ?_
  refine r_put C fcX11 (f := 15) (by decide) rfl rfl rfl rfl k958 dX11_laysShapeHull_2 (w.mono fun h1 w => ?_)
  refine r_iconst (v := 0) C dX11_laysShapeHull_5 rfl ?_
  refine r_istore_n C dX11_laysShapeHull_6 rfl (by decide) rfl ?_
  exact r_sub [1, 2, 0] rfl (g7 h1 l0 l1 (0 : Int32) w)
theorem eX11_laysShapeHull {E : EV} {post : Option AV → AH → Prop} {h : AH} {l0 : Option Nat} {l1 : Int32} {J7 : AH → Option Nat → Int32 → Int32 → Prop} (g7 : ∀ X : AX, Cb E X cX11_laysShapeHull RX11 4 rmX11_laysShapeHull → Cr E X none rmX11_laysShapeHull "laysShapeHull" post → ∀ (h : AH) (l0 : Option Nat) (l1 : Int32) (l2 : Int32), J7 h l0 l1 l2 → Go E X 4 0 0 7 [(0, aP l0), (1, aI l1), (2, aI l2)] [] h) (w : PX11_laysShapeHull_0 E post J7 h l0 l1) : sX11_laysShapeHull E [aP l0, aI l1] h post := Spec.of RX11 rfl rfl (Nat.le_of_ble_eq_true rfl) fun X C D => bX11_laysShapeHull_0 C D (g7 X C D) w
theorem dX11_hullSize_0 : decode cX11_hullSize 0 = .ok (.iload_n 1, 1) := by decide +kernel
theorem dX11_hullSize_1 : decode cX11_hullSize 1 = .ok (.invokestatic 182, 3) := by decide +kernel
theorem dX11_hullSize_4 : decode cX11_hullSize 4 = .ok (.ifCond .ne 6, 3) := by decide +kernel
theorem dX11_hullSize_7 : decode cX11_hullSize 7 = .ok (.ldc 145, 2) := by decide +kernel
theorem dX11_hullSize_9 : decode cX11_hullSize 9 = .ok (.ireturn, 1) := by decide +kernel
theorem dX11_hullSize_10 : decode cX11_hullSize 10 = .ok (.aload_n 0, 1) := by decide +kernel
theorem dX11_hullSize_11 : decode cX11_hullSize 11 = .ok (.iload_n 1, 1) := by decide +kernel
theorem dX11_hullSize_12 : decode cX11_hullSize 12 = .ok (.invokevirtual 195, 3) := by decide +kernel
theorem dX11_hullSize_15 : decode cX11_hullSize 15 = .ok (.ifCond .eq 6, 3) := by decide +kernel
theorem dX11_hullSize_18 : decode cX11_hullSize 18 = .ok (.ldc 42, 2) := by decide +kernel
theorem dX11_hullSize_20 : decode cX11_hullSize 20 = .ok (.ireturn, 1) := by decide +kernel
theorem dX11_hullSize_21 : decode cX11_hullSize 21 = .ok (.aload_n 0, 1) := by decide +kernel
theorem dX11_hullSize_22 : decode cX11_hullSize 22 = .ok (.iload_n 1, 1) := by decide +kernel
theorem dX11_hullSize_23 : decode cX11_hullSize 23 = .ok (.invokestatic 50, 3) := by decide +kernel
theorem dX11_hullSize_26 : decode cX11_hullSize 26 = .ok (.invokevirtual 223, 3) := by decide +kernel
theorem dX11_hullSize_29 : decode cX11_hullSize 29 = .ok (.aload_n 0, 1) := by decide +kernel
theorem dX11_hullSize_30 : decode cX11_hullSize 30 = .ok (.getfield 211, 3) := by decide +kernel
theorem dX11_hullSize_33 : decode cX11_hullSize 33 = .ok (.ireturn, 1) := by decide +kernel
abbrev rmX11_hullSize : Room := { frames := 4, cells := 0, slots := 0, locals := 160 }
abbrev sX11_hullSize (E : EV) : List AV → AH → (Option AV → AH → Prop) → Prop := Spec E yX11_hullSize cX11_hullSize 2 (some .int) rmX11_hullSize
theorem mX11_hullSize : Mt yX11_hullSize cX11_hullSize 2 (some .int) 1 := ⟨k1146, k12, by decide +kernel⟩
theorem vX11_hullSize : MtV yX11_hullSize 11 := ⟨k1144, k1145, by decide, (RX11, TX11, 26), rfl, rfl⟩
def PX11_hullSize_0 (E : EV) (post : Option AV → AH → Prop) (h : AH) (l0 : Option Nat) (l1 : Int32) : Prop :=
  CS (sX11_isSlot E) [aI l1] h (kI fun x1 h2 => (¬ x1 = 0 → CV (sX11_isEmpty E) l0 11 [aI l1] h2 (kI fun x3 h4 => (x3 = 0 → CS (sX11_slotAt E) [aI l1] h4 (kI fun x5 h6 => CV (sX11_laysShapeHull E) l0 11 [aI x5] h6 (kV fun h8 => rdI h8 l0 11 18 fun x9 => post (some (aI x9)) h8))) ∧ (¬ x3 = 0 → post (some (aI (-1000002 : Int32))) h4))) ∧ (x1 = 0 → post (some (aI (-1000001 : Int32))) h2))
theorem bX11_hullSize_0 {E : EV} {X : AX} {post : Option AV → AH → Prop} (C : Cb E X cX11_hullSize RX11 2 rmX11_hullSize) (D : Cr E X (some .int) rmX11_hullSize "hullSize" post) {h : AH} {l0 : Option Nat} {l1 : Int32} (w : PX11_hullSize_0 E post h l0 l1) : Go E X 2 0 0 0 [(0, aP l0), (1, aI l1)] [] h := by
  unfold PX11_hullSize_0 at w
  refine r_iload_n C dX11_hullSize_0 rfl 1 rfl ?_
  refine r_csI (rm' := rmX11_isSlot) C mX11_isSlot vX11_isSlot k1049 [aI l1] [] rfl rfl (Nat.le_of_ble_eq_true rfl) (by decide) ⟨Nat.zero_le _, Nat.zero_le _⟩ 0 0 rfl rfl dX11_hullSize_1 w (fun x1 h2 w => ?_)
  refine r_if_ne C dX11_hullSize_4 (tgt := 10) rfl (fun hc => ?_) (fun hc => ?_)
  · have w := w.1 hc
    refine r_aload_n C dX11_hullSize_10 rfl 0 rfl ?_
    refine r_iload_n C dX11_hullSize_11 rfl 1 rfl ?_
    refine r_cvI (rm' := rmX11_isEmpty) C mX11_isEmpty vX11_isEmpty k1111 [aI l1] [] rfl rfl (Nat.le_of_ble_eq_true rfl) (by decide) ⟨Nat.zero_le _, Nat.zero_le _⟩ 0 0 rfl rfl dX11_hullSize_12 w (fun x3 h4 w => ?_)
    refine r_if_eq C dX11_hullSize_15 (tgt := 21) rfl (fun hc => ?_) (fun hc => ?_)
    · have w := w.1 hc
      refine r_aload_n C dX11_hullSize_21 rfl 0 rfl ?_
      refine r_iload_n C dX11_hullSize_22 rfl 1 rfl ?_
      refine r_csI (rm' := rmX11_slotAt) C mX11_slotAt vX11_slotAt k1100 [aI l1] [aP l0] rfl rfl (Nat.le_of_ble_eq_true rfl) (by decide) ⟨Nat.zero_le _, Nat.zero_le _⟩ 0 0 rfl rfl dX11_hullSize_23 w (fun x5 h6 w => ?_)
      refine r_cvV (rm' := rmX11_laysShapeHull) C mX11_laysShapeHull vX11_laysShapeHull k1147 [aI x5] [] rfl rfl (Nat.le_of_ble_eq_true rfl) (by decide) ⟨Nat.zero_le _, Nat.zero_le _⟩ 0 0 rfl rfl dX11_hullSize_26 w (fun h8 w => ?_)
      refine r_aload_n C dX11_hullSize_29 rfl 0 rfl ?_
      refine r_getI C fcX11 (f := 18) (by decide) rfl k961 dX11_hullSize_30 (w.mono fun x9 w => ?_)
      exact r_iret C D rfl (Nat.zero_le _) (Nat.zero_le _) dX11_hullSize_33 w
    · have w := w.2 hc
      refine r_ldc (v := -1000002) C dX11_hullSize_18 k1027 ?_
      exact r_iret C D rfl (Nat.zero_le _) (Nat.zero_le _) dX11_hullSize_20 w
  · have w := w.2 hc
    refine r_ldc (v := -1000001) C dX11_hullSize_7 k1039 ?_
    exact r_iret C D rfl (Nat.zero_le _) (Nat.zero_le _) dX11_hullSize_9 w
theorem eX11_hullSize {E : EV} {post : Option AV → AH → Prop} {h : AH} {l0 : Option Nat} {l1 : Int32} (w : PX11_hullSize_0 E post h l0 l1) : sX11_hullSize E [aP l0, aI l1] h post := Spec.of RX11 rfl rfl (Nat.le_of_ble_eq_true rfl) fun X C D => bX11_hullSize_0 C D w
theorem dX11_hullVertex_0 : decode cX11_hullVertex 0 = .ok (.iload_n 1, 1) := by decide +kernel
theorem dX11_hullVertex_1 : decode cX11_hullVertex 1 = .ok (.invokestatic 182, 3) := by decide +kernel
theorem dX11_hullVertex_4 : decode cX11_hullVertex 4 = .ok (.ifCond .eq 16, 3) := by decide +kernel
theorem dX11_hullVertex_7 : decode cX11_hullVertex 7 = .ok (.iload_n 2, 1) := by decide +kernel
theorem dX11_hullVertex_8 : decode cX11_hullVertex 8 = .ok (.ifCond .lt 12, 3) := by decide +kernel
theorem dX11_hullVertex_11 : decode cX11_hullVertex 11 = .ok (.iload_n 3, 1) := by decide +kernel
theorem dX11_hullVertex_12 : decode cX11_hullVertex 12 = .ok (.iconst 0, 1) := by decide +kernel
theorem dX11_hullVertex_13 : decode cX11_hullVertex 13 = .ok (.iconst 1, 1) := by decide +kernel
theorem dX11_hullVertex_14 : decode cX11_hullVertex 14 = .ok (.invokestatic 46, 3) := by decide +kernel
theorem dX11_hullVertex_17 : decode cX11_hullVertex 17 = .ok (.ifCond .ne 6, 3) := by decide +kernel
theorem dX11_hullVertex_20 : decode cX11_hullVertex 20 = .ok (.ldc 145, 2) := by decide +kernel
theorem dX11_hullVertex_22 : decode cX11_hullVertex 22 = .ok (.ireturn, 1) := by decide +kernel
theorem dX11_hullVertex_23 : decode cX11_hullVertex 23 = .ok (.aload_n 0, 1) := by decide +kernel
theorem dX11_hullVertex_24 : decode cX11_hullVertex 24 = .ok (.iload_n 1, 1) := by decide +kernel
theorem dX11_hullVertex_25 : decode cX11_hullVertex 25 = .ok (.invokevirtual 195, 3) := by decide +kernel
theorem dX11_hullVertex_28 : decode cX11_hullVertex 28 = .ok (.ifCond .eq 6, 3) := by decide +kernel
theorem dX11_hullVertex_31 : decode cX11_hullVertex 31 = .ok (.ldc 42, 2) := by decide +kernel
theorem dX11_hullVertex_33 : decode cX11_hullVertex 33 = .ok (.ireturn, 1) := by decide +kernel
theorem dX11_hullVertex_34 : decode cX11_hullVertex 34 = .ok (.aload_n 0, 1) := by decide +kernel
theorem dX11_hullVertex_35 : decode cX11_hullVertex 35 = .ok (.iload_n 1, 1) := by decide +kernel
theorem dX11_hullVertex_36 : decode cX11_hullVertex 36 = .ok (.invokestatic 50, 3) := by decide +kernel
theorem dX11_hullVertex_39 : decode cX11_hullVertex 39 = .ok (.invokevirtual 223, 3) := by decide +kernel
theorem dX11_hullVertex_42 : decode cX11_hullVertex 42 = .ok (.iload_n 2, 1) := by decide +kernel
theorem dX11_hullVertex_43 : decode cX11_hullVertex 43 = .ok (.aload_n 0, 1) := by decide +kernel
theorem dX11_hullVertex_44 : decode cX11_hullVertex 44 = .ok (.getfield 211, 3) := by decide +kernel
theorem dX11_hullVertex_47 : decode cX11_hullVertex 47 = .ok (.if_icmp .lt 8, 3) := by decide +kernel
theorem dX11_hullVertex_50 : decode cX11_hullVertex 50 = .ok (.ldc 226, 2) := by decide +kernel
theorem dX11_hullVertex_52 : decode cX11_hullVertex 52 = .ok (.goto 22, 3) := by decide +kernel
theorem dX11_hullVertex_55 : decode cX11_hullVertex 55 = .ok (.iload_n 3, 1) := by decide +kernel
theorem dX11_hullVertex_56 : decode cX11_hullVertex 56 = .ok (.ifCond .ne 12, 3) := by decide +kernel
theorem dX11_hullVertex_59 : decode cX11_hullVertex 59 = .ok (.aload_n 0, 1) := by decide +kernel
theorem dX11_hullVertex_60 : decode cX11_hullVertex 60 = .ok (.getfield 26, 3) := by decide +kernel
theorem dX11_hullVertex_63 : decode cX11_hullVertex 63 = .ok (.iload_n 2, 1) := by decide +kernel
theorem dX11_hullVertex_64 : decode cX11_hullVertex 64 = .ok (.iaload, 1) := by decide +kernel
theorem dX11_hullVertex_65 : decode cX11_hullVertex 65 = .ok (.goto 9, 3) := by decide +kernel
theorem dX11_hullVertex_68 : decode cX11_hullVertex 68 = .ok (.aload_n 0, 1) := by decide +kernel
theorem dX11_hullVertex_69 : decode cX11_hullVertex 69 = .ok (.getfield 29, 3) := by decide +kernel
theorem dX11_hullVertex_72 : decode cX11_hullVertex 72 = .ok (.iload_n 2, 1) := by decide +kernel
theorem dX11_hullVertex_73 : decode cX11_hullVertex 73 = .ok (.iaload, 1) := by decide +kernel
theorem dX11_hullVertex_74 : decode cX11_hullVertex 74 = .ok (.ireturn, 1) := by decide +kernel
abbrev rmX11_hullVertex : Room := { frames := 4, cells := 0, slots := 0, locals := 160 }
abbrev sX11_hullVertex (E : EV) : List AV → AH → (Option AV → AH → Prop) → Prop := Spec E yX11_hullVertex cX11_hullVertex 4 (some .int) rmX11_hullVertex
theorem mX11_hullVertex : Mt yX11_hullVertex cX11_hullVertex 4 (some .int) 3 := ⟨k1169, k12, by decide +kernel⟩
theorem vX11_hullVertex : MtV yX11_hullVertex 11 := ⟨k1167, k1168, by decide, (RX11, TX11, 26), rfl, rfl⟩
def PX11_hullVertex_0 (E : EV) (post : Option AV → AH → Prop) (h : AH) (l0 : Option Nat) (l1 : Int32) (l2 : Int32) (l3 : Int32) : Prop :=
  CS (sX11_isSlot E) [aI l1] h (kI fun x1 h2 => (x1 = 0 → post (some (aI (-1000001 : Int32))) h2) ∧ (¬ x1 = 0 → (l2 < 0 → post (some (aI (-1000001 : Int32))) h2) ∧ (¬ l2 < 0 → CS (sX11_in E) [aI l3, aI (0 : Int32), aI (1 : Int32)] h2 (kI fun x3 h4 => (¬ x3 = 0 → CV (sX11_isEmpty E) l0 11 [aI l1] h4 (kI fun x5 h6 => (x5 = 0 → CS (sX11_slotAt E) [aI l1] h6 (kI fun x7 h8 => CV (sX11_laysShapeHull E) l0 11 [aI x7] h8 (kV fun h10 => rdI h10 l0 11 18 fun x11 => (l2 < x11 → (¬ l3 = 0 → rdP h10 l0 11 20 fun x12 => aldI h10 x12 0 l2 fun x13 => post (some (aI x13)) h10) ∧ (l3 = 0 → rdP h10 l0 11 19 fun x12 => aldI h10 x12 0 l2 fun x13 => post (some (aI x13)) h10)) ∧ (¬ l2 < x11 → post (some (aI (-1000009 : Int32))) h10)))) ∧ (¬ x5 = 0 → post (some (aI (-1000002 : Int32))) h6))) ∧ (x3 = 0 → post (some (aI (-1000001 : Int32))) h4)))))
theorem bX11_hullVertex_0 {E : EV} {X : AX} {post : Option AV → AH → Prop} (C : Cb E X cX11_hullVertex RX11 4 rmX11_hullVertex) (D : Cr E X (some .int) rmX11_hullVertex "hullVertex" post) {h : AH} {l0 : Option Nat} {l1 : Int32} {l2 : Int32} {l3 : Int32} (w : PX11_hullVertex_0 E post h l0 l1 l2 l3) : Go E X 4 0 0 0 [(0, aP l0), (1, aI l1), (2, aI l2), (3, aI l3)] [] h := by
  unfold PX11_hullVertex_0 at w
  refine r_iload_n C dX11_hullVertex_0 rfl 1 rfl ?_
  refine r_csI (rm' := rmX11_isSlot) C mX11_isSlot vX11_isSlot k1049 [aI l1] [] rfl rfl (Nat.le_of_ble_eq_true rfl) (by decide) ⟨Nat.zero_le _, Nat.zero_le _⟩ 0 0 rfl rfl dX11_hullVertex_1 w (fun x1 h2 w => ?_)
  refine r_if_eq C dX11_hullVertex_4 (tgt := 20) rfl (fun hc => ?_) (fun hc => ?_)
  · have w := w.1 hc
    refine r_ldc (v := -1000001) C dX11_hullVertex_20 k1039 ?_
    exact r_iret C D rfl (Nat.zero_le _) (Nat.zero_le _) dX11_hullVertex_22 w
  · have w := w.2 hc
    refine r_iload_n C dX11_hullVertex_7 rfl 2 rfl ?_
    refine r_if_lt C dX11_hullVertex_8 (tgt := 20) rfl (fun hc => ?_) (fun hc => ?_)
    · have w := w.1 hc
      refine r_ldc (v := -1000001) C dX11_hullVertex_20 k1039 ?_
      exact r_iret C D rfl (Nat.zero_le _) (Nat.zero_le _) dX11_hullVertex_22 w
    · have w := w.2 hc
      refine r_iload_n C dX11_hullVertex_11 rfl 3 rfl ?_
      refine r_iconst (v := 0) C dX11_hullVertex_12 rfl ?_
      refine r_iconst (v := 1) C dX11_hullVertex_13 rfl ?_
      refine r_csI (rm' := rmX11_in) C mX11_in vX11_in k1036 [aI l3, aI (0 : Int32), aI (1 : Int32)] [] rfl rfl (Nat.le_of_ble_eq_true rfl) (by decide) ⟨Nat.zero_le _, Nat.zero_le _⟩ 0 0 rfl rfl dX11_hullVertex_14 w (fun x3 h4 w => ?_)
      refine r_if_ne C dX11_hullVertex_17 (tgt := 23) rfl (fun hc => ?_) (fun hc => ?_)
      · have w := w.1 hc
        refine r_aload_n C dX11_hullVertex_23 rfl 0 rfl ?_
        refine r_iload_n C dX11_hullVertex_24 rfl 1 rfl ?_
        refine r_cvI (rm' := rmX11_isEmpty) C mX11_isEmpty vX11_isEmpty k1111 [aI l1] [] rfl rfl (Nat.le_of_ble_eq_true rfl) (by decide) ⟨Nat.zero_le _, Nat.zero_le _⟩ 0 0 rfl rfl dX11_hullVertex_25 w (fun x5 h6 w => ?_)
        refine r_if_eq C dX11_hullVertex_28 (tgt := 34) rfl (fun hc => ?_) (fun hc => ?_)
        · have w := w.1 hc
          refine r_aload_n C dX11_hullVertex_34 rfl 0 rfl ?_
          refine r_iload_n C dX11_hullVertex_35 rfl 1 rfl ?_
          refine r_csI (rm' := rmX11_slotAt) C mX11_slotAt vX11_slotAt k1100 [aI l1] [aP l0] rfl rfl (Nat.le_of_ble_eq_true rfl) (by decide) ⟨Nat.zero_le _, Nat.zero_le _⟩ 0 0 rfl rfl dX11_hullVertex_36 w (fun x7 h8 w => ?_)
          refine r_cvV (rm' := rmX11_laysShapeHull) C mX11_laysShapeHull vX11_laysShapeHull k1147 [aI x7] [] rfl rfl (Nat.le_of_ble_eq_true rfl) (by decide) ⟨Nat.zero_le _, Nat.zero_le _⟩ 0 0 rfl rfl dX11_hullVertex_39 w (fun h10 w => ?_)
          refine r_iload_n C dX11_hullVertex_42 rfl 2 rfl ?_
          refine r_aload_n C dX11_hullVertex_43 rfl 0 rfl ?_
          refine r_getI C fcX11 (f := 18) (by decide) rfl k961 dX11_hullVertex_44 (w.mono fun x11 w => ?_)
          refine r_icmp_lt C dX11_hullVertex_47 (tgt := 55) rfl (fun hc => ?_) (fun hc => ?_)
          · have w := w.1 hc
            refine r_iload_n C dX11_hullVertex_55 rfl 3 rfl ?_
            refine r_if_ne C dX11_hullVertex_56 (tgt := 68) rfl (fun hc => ?_) (fun hc => ?_)
            · have w := w.1 hc
              refine r_aload_n C dX11_hullVertex_68 rfl 0 rfl ?_
              refine r_getP C fcX11 (f := 20) (by decide) rfl k963 dX11_hullVertex_69 (w.mono fun x12 w => ?_)
              refine r_iload_n C dX11_hullVertex_72 rfl 2 rfl ?_
              refine r_iald C dX11_hullVertex_73 (w.mono fun x13 w => ?_)
              exact r_iret C D rfl (Nat.zero_le _) (Nat.zero_le _) dX11_hullVertex_74 w
            · have w := w.2 hc
              refine r_aload_n C dX11_hullVertex_59 rfl 0 rfl ?_
              refine r_getP C fcX11 (f := 19) (by decide) rfl k962 dX11_hullVertex_60 (w.mono fun x12 w => ?_)
              refine r_iload_n C dX11_hullVertex_63 rfl 2 rfl ?_
              refine r_iald C dX11_hullVertex_64 (w.mono fun x13 w => ?_)
              refine r_goto C dX11_hullVertex_65 (tgt := 74) rfl ?_
              exact r_iret C D rfl (Nat.zero_le _) (Nat.zero_le _) dX11_hullVertex_74 w
          · have w := w.2 hc
            refine r_ldc (v := -1000009) C dX11_hullVertex_50 k1170 ?_
            refine r_goto C dX11_hullVertex_52 (tgt := 74) rfl ?_
            exact r_iret C D rfl (Nat.zero_le _) (Nat.zero_le _) dX11_hullVertex_74 w
        · have w := w.2 hc
          refine r_ldc (v := -1000002) C dX11_hullVertex_31 k1027 ?_
          exact r_iret C D rfl (Nat.zero_le _) (Nat.zero_le _) dX11_hullVertex_33 w
      · have w := w.2 hc
        refine r_ldc (v := -1000001) C dX11_hullVertex_20 k1039 ?_
        exact r_iret C D rfl (Nat.zero_le _) (Nat.zero_le _) dX11_hullVertex_22 w
theorem eX11_hullVertex {E : EV} {post : Option AV → AH → Prop} {h : AH} {l0 : Option Nat} {l1 : Int32} {l2 : Int32} {l3 : Int32} (w : PX11_hullVertex_0 E post h l0 l1 l2 l3) : sX11_hullVertex E [aP l0, aI l1, aI l2, aI l3] h post := Spec.of RX11 rfl rfl (Nat.le_of_ble_eq_true rfl) fun X C D => bX11_hullVertex_0 C D w
theorem dX11_init_0 : decode cX11_init 0 = .ok (.aload_n 0, 1) := by decide +kernel
theorem dX11_init_1 : decode cX11_init 1 = .ok (.invokespecial 1, 3) := by decide +kernel
theorem dX11_init_4 : decode cX11_init 4 = .ok (.aload_n 0, 1) := by decide +kernel
theorem dX11_init_5 : decode cX11_init 5 = .ok (.sipush 580, 3) := by decide +kernel
theorem dX11_init_8 : decode cX11_init 8 = .ok (.newarray .int, 2) := by decide +kernel
theorem dX11_init_10 : decode cX11_init 10 = .ok (.putfield 7, 3) := by decide +kernel
theorem dX11_init_13 : decode cX11_init 13 = .ok (.aload_n 0, 1) := by decide +kernel
theorem dX11_init_14 : decode cX11_init 14 = .ok (.sipush 3000, 3) := by decide +kernel
theorem dX11_init_17 : decode cX11_init 17 = .ok (.newarray .int, 2) := by decide +kernel
theorem dX11_init_19 : decode cX11_init 19 = .ok (.putfield 13, 3) := by decide +kernel
theorem dX11_init_22 : decode cX11_init 22 = .ok (.aload_n 0, 1) := by decide +kernel
theorem dX11_init_23 : decode cX11_init 23 = .ok (.sipush 150, 3) := by decide +kernel
theorem dX11_init_26 : decode cX11_init 26 = .ok (.newarray .byte, 2) := by decide +kernel
theorem dX11_init_28 : decode cX11_init 28 = .ok (.putfield 16, 3) := by decide +kernel
theorem dX11_init_31 : decode cX11_init 31 = .ok (.aload_n 0, 1) := by decide +kernel
theorem dX11_init_32 : decode cX11_init 32 = .ok (.bipush 36, 2) := by decide +kernel
theorem dX11_init_34 : decode cX11_init 34 = .ok (.newarray .int, 2) := by decide +kernel
theorem dX11_init_36 : decode cX11_init 36 = .ok (.putfield 20, 3) := by decide +kernel
theorem dX11_init_39 : decode cX11_init 39 = .ok (.aload_n 0, 1) := by decide +kernel
theorem dX11_init_40 : decode cX11_init 40 = .ok (.bipush 36, 2) := by decide +kernel
theorem dX11_init_42 : decode cX11_init 42 = .ok (.newarray .int, 2) := by decide +kernel
theorem dX11_init_44 : decode cX11_init 44 = .ok (.putfield 23, 3) := by decide +kernel
theorem dX11_init_47 : decode cX11_init 47 = .ok (.aload_n 0, 1) := by decide +kernel
theorem dX11_init_48 : decode cX11_init 48 = .ok (.bipush 37, 2) := by decide +kernel
theorem dX11_init_50 : decode cX11_init 50 = .ok (.newarray .int, 2) := by decide +kernel
theorem dX11_init_52 : decode cX11_init 52 = .ok (.putfield 26, 3) := by decide +kernel
theorem dX11_init_55 : decode cX11_init 55 = .ok (.aload_n 0, 1) := by decide +kernel
theorem dX11_init_56 : decode cX11_init 56 = .ok (.bipush 37, 2) := by decide +kernel
theorem dX11_init_58 : decode cX11_init 58 = .ok (.newarray .int, 2) := by decide +kernel
theorem dX11_init_60 : decode cX11_init 60 = .ok (.putfield 29, 3) := by decide +kernel
theorem dX11_init_63 : decode cX11_init 63 = .ok (.aload_n 0, 1) := by decide +kernel
theorem dX11_init_64 : decode cX11_init 64 = .ok (.bipush 90, 2) := by decide +kernel
theorem dX11_init_66 : decode cX11_init 66 = .ok (.newarray .int, 2) := by decide +kernel
theorem dX11_init_68 : decode cX11_init 68 = .ok (.putfield 32, 3) := by decide +kernel
theorem dX11_init_71 : decode cX11_init 71 = .ok (.aload_n 0, 1) := by decide +kernel
theorem dX11_init_72 : decode cX11_init 72 = .ok (.sipush 500, 3) := by decide +kernel
theorem dX11_init_75 : decode cX11_init 75 = .ok (.newarray .int, 2) := by decide +kernel
theorem dX11_init_77 : decode cX11_init 77 = .ok (.putfield 35, 3) := by decide +kernel
theorem dX11_init_80 : decode cX11_init 80 = .ok (.aload_n 0, 1) := by decide +kernel
theorem dX11_init_81 : decode cX11_init 81 = .ok (.getfield 7, 3) := by decide +kernel
theorem dX11_init_84 : decode cX11_init 84 = .ok (.iconst 0, 1) := by decide +kernel
theorem dX11_init_85 : decode cX11_init 85 = .ok (.bipush 20, 2) := by decide +kernel
theorem dX11_init_87 : decode cX11_init 87 = .ok (.iastore, 1) := by decide +kernel
theorem dX11_init_88 : decode cX11_init 88 = .ok (.aload_n 0, 1) := by decide +kernel
theorem dX11_init_89 : decode cX11_init 89 = .ok (.getfield 7, 3) := by decide +kernel
theorem dX11_init_92 : decode cX11_init 92 = .ok (.iconst 1, 1) := by decide +kernel
theorem dX11_init_93 : decode cX11_init 93 = .ok (.bipush 20, 2) := by decide +kernel
theorem dX11_init_95 : decode cX11_init 95 = .ok (.iastore, 1) := by decide +kernel
theorem dX11_init_96 : decode cX11_init 96 = .ok (.return_, 1) := by decide +kernel
abbrev rmX11_init : Room := { frames := 1, cells := 9, slots := 4600, locals := 40 }
abbrev sX11_init (E : EV) : List AV → AH → (Option AV → AH → Prop) → Prop := Spec E yX11_init cX11_init 1 none rmX11_init
theorem mX11_init : Mt yX11_init cX11_init 1 none 0 := ⟨k941, k12, by decide +kernel⟩
theorem vX11_init : MtI yX11_init := ⟨rfl, k940⟩
def PX11_init_0 (E : EV) (post : Option AV → AH → Prop) (k n : Nat) (h : AH) (l0 : Nat) : Prop :=
  (k + 1 ≤ 9 ∧ n + 580 ≤ 4600) ∧ (∀ h1, h1 = h ++ [.inl (0, List.replicate 580 0)] → wr h1 (some l0) 11 0 (aP (some h.length)) fun h2 => ((k + 1) + 1 ≤ 9 ∧ (n + 580) + 3000 ≤ 4600) ∧ (∀ h3, h3 = h2 ++ [.inl (0, List.replicate 3000 0)] → wr h3 (some l0) 11 1 (aP (some h2.length)) fun h4 => (((k + 1) + 1) + 1 ≤ 9 ∧ ((n + 580) + 3000) + 150 ≤ 4600) ∧ (∀ h5, h5 = h4 ++ [.inl (1, List.replicate 150 0)] → wr h5 (some l0) 11 3 (aP (some h4.length)) fun h6 => ((((k + 1) + 1) + 1) + 1 ≤ 9 ∧ (((n + 580) + 3000) + 150) + 36 ≤ 4600) ∧ (∀ h7, h7 = h6 ++ [.inl (0, List.replicate 36 0)] → wr h7 (some l0) 11 16 (aP (some h6.length)) fun h8 => (((((k + 1) + 1) + 1) + 1) + 1 ≤ 9 ∧ ((((n + 580) + 3000) + 150) + 36) + 36 ≤ 4600) ∧ (∀ h9, h9 = h8 ++ [.inl (0, List.replicate 36 0)] → wr h9 (some l0) 11 17 (aP (some h8.length)) fun h10 => ((((((k + 1) + 1) + 1) + 1) + 1) + 1 ≤ 9 ∧ (((((n + 580) + 3000) + 150) + 36) + 36) + 37 ≤ 4600) ∧ (∀ h11, h11 = h10 ++ [.inl (0, List.replicate 37 0)] → wr h11 (some l0) 11 19 (aP (some h10.length)) fun h12 => (((((((k + 1) + 1) + 1) + 1) + 1) + 1) + 1 ≤ 9 ∧ ((((((n + 580) + 3000) + 150) + 36) + 36) + 37) + 37 ≤ 4600) ∧ (∀ h13, h13 = h12 ++ [.inl (0, List.replicate 37 0)] → wr h13 (some l0) 11 20 (aP (some h12.length)) fun h14 => ((((((((k + 1) + 1) + 1) + 1) + 1) + 1) + 1) + 1 ≤ 9 ∧ (((((((n + 580) + 3000) + 150) + 36) + 36) + 37) + 37) + 90 ≤ 4600) ∧ (∀ h15, h15 = h14 ++ [.inl (0, List.replicate 90 0)] → wr h15 (some l0) 11 23 (aP (some h14.length)) fun h16 => (((((((((k + 1) + 1) + 1) + 1) + 1) + 1) + 1) + 1) + 1 ≤ 9 ∧ ((((((((n + 580) + 3000) + 150) + 36) + 36) + 37) + 37) + 90) + 500 ≤ 4600) ∧ (∀ h17, h17 = h16 ++ [.inl (0, List.replicate 500 0)] → wr h17 (some l0) 11 25 (aP (some h16.length)) fun h18 => rdP h18 (some l0) 11 0 fun x19 => astI h18 x19 0 (0 : Int32) (20 : Int32) fun h20 => rdP h20 (some l0) 11 0 fun x21 => astI h20 x21 0 (1 : Int32) (20 : Int32) fun h22 => ((((((((((k + 1) + 1) + 1) + 1) + 1) + 1) + 1) + 1) + 1) ≤ 9 ∧ (((((((((n + 580) + 3000) + 150) + 36) + 36) + 37) + 37) + 90) + 500) ≤ 4600) ∧ post none h22)))))))))
theorem bX11_init_0 {E : EV} {X : AX} {post : Option AV → AH → Prop} (C : Cb E X cX11_init RX11 1 rmX11_init) (D : Cr E X none rmX11_init "<init>" post) {k n : Nat} {h : AH} {l0 : Nat} (w : PX11_init_0 E post k n h l0) : Go E X 1 k n 0 [(0, aP (some l0))] [] h := by
  unfold PX11_init_0 at w
  refine r_aload_n C dX11_init_0 rfl 0 rfl ?_
  refine r_objInit C k942 k20 k21 (by decide) (by decide) (Nat.le_of_ble_eq_true rfl) dX11_init_1 ?_
  refine r_aload_n C dX11_init_4 rfl 0 rfl ?_
  refine r_sipush (v := 580) C dX11_init_5 rfl ?_
  refine r_newaI 0 .int rfl 0 rfl ra_int rfl (N' := 580) C k67 (by decide) rfl (by decide) w.1.1 w.1.2 dX11_init_8 ?_
  have w := w.2 _ rfl
  generalize h ++ [.inl (0, List.replicate 580 0)] = h1 at w ⊢
  refine r_putF C D fcX11 (f := 0) (by decide) rfl rfl rfl rfl (ft_A _ _) k943 dX11_init_10 (w.mono fun h2 w => ?_)
  refine r_aload_n C dX11_init_13 rfl 0 rfl ?_
  refine r_sipush (v := 3000) C dX11_init_14 rfl ?_
  refine r_newaI 0 .int rfl 0 rfl ra_int rfl (N' := 3000) C k67 (by decide) rfl (by decide) w.1.1 w.1.2 dX11_init_17 ?_
  have w := w.2 _ rfl
  generalize h2 ++ [.inl (0, List.replicate 3000 0)] = h3 at w ⊢
  refine r_putF C D fcX11 (f := 1) (by decide) rfl rfl rfl rfl (ft_A _ _) k944 dX11_init_19 (w.mono fun h4 w => ?_)
  refine r_aload_n C dX11_init_22 rfl 0 rfl ?_
  refine r_sipush (v := 150) C dX11_init_23 rfl ?_
  refine r_newaI 1 .byte rfl 1 rfl ra_byte rfl (N' := 150) C k1022 (by decide) rfl (by decide) w.1.1 w.1.2 dX11_init_26 ?_
  have w := w.2 _ rfl
  generalize h4 ++ [.inl (1, List.replicate 150 0)] = h5 at w ⊢
  refine r_putF C D fcX11 (f := 3) (by decide) rfl rfl rfl rfl (ft_A _ _) k946 dX11_init_28 (w.mono fun h6 w => ?_)
  refine r_aload_n C dX11_init_31 rfl 0 rfl ?_
  refine r_bipush (v := 36) C dX11_init_32 rfl ?_
  refine r_newaI 0 .int rfl 0 rfl ra_int rfl (N' := 36) C k67 (by decide) rfl (by decide) w.1.1 w.1.2 dX11_init_34 ?_
  have w := w.2 _ rfl
  generalize h6 ++ [.inl (0, List.replicate 36 0)] = h7 at w ⊢
  refine r_putF C D fcX11 (f := 16) (by decide) rfl rfl rfl rfl (ft_A _ _) k959 dX11_init_36 (w.mono fun h8 w => ?_)
  refine r_aload_n C dX11_init_39 rfl 0 rfl ?_
  refine r_bipush (v := 36) C dX11_init_40 rfl ?_
  refine r_newaI 0 .int rfl 0 rfl ra_int rfl (N' := 36) C k67 (by decide) rfl (by decide) w.1.1 w.1.2 dX11_init_42 ?_
  have w := w.2 _ rfl
  generalize h8 ++ [.inl (0, List.replicate 36 0)] = h9 at w ⊢
  refine r_putF C D fcX11 (f := 17) (by decide) rfl rfl rfl rfl (ft_A _ _) k960 dX11_init_44 (w.mono fun h10 w => ?_)
  refine r_aload_n C dX11_init_47 rfl 0 rfl ?_
  refine r_bipush (v := 37) C dX11_init_48 rfl ?_
  refine r_newaI 0 .int rfl 0 rfl ra_int rfl (N' := 37) C k67 (by decide) rfl (by decide) w.1.1 w.1.2 dX11_init_50 ?_
  have w := w.2 _ rfl
  generalize h10 ++ [.inl (0, List.replicate 37 0)] = h11 at w ⊢
  refine r_putF C D fcX11 (f := 19) (by decide) rfl rfl rfl rfl (ft_A _ _) k962 dX11_init_52 (w.mono fun h12 w => ?_)
  refine r_aload_n C dX11_init_55 rfl 0 rfl ?_
  refine r_bipush (v := 37) C dX11_init_56 rfl ?_
  refine r_newaI 0 .int rfl 0 rfl ra_int rfl (N' := 37) C k67 (by decide) rfl (by decide) w.1.1 w.1.2 dX11_init_58 ?_
  have w := w.2 _ rfl
  generalize h12 ++ [.inl (0, List.replicate 37 0)] = h13 at w ⊢
  refine r_putF C D fcX11 (f := 20) (by decide) rfl rfl rfl rfl (ft_A _ _) k963 dX11_init_60 (w.mono fun h14 w => ?_)
  refine r_aload_n C dX11_init_63 rfl 0 rfl ?_
  refine r_bipush (v := 90) C dX11_init_64 rfl ?_
  refine r_newaI 0 .int rfl 0 rfl ra_int rfl (N' := 90) C k67 (by decide) rfl (by decide) w.1.1 w.1.2 dX11_init_66 ?_
  have w := w.2 _ rfl
  generalize h14 ++ [.inl (0, List.replicate 90 0)] = h15 at w ⊢
  refine r_putF C D fcX11 (f := 23) (by decide) rfl rfl rfl rfl (ft_A _ _) k966 dX11_init_68 (w.mono fun h16 w => ?_)
  refine r_aload_n C dX11_init_71 rfl 0 rfl ?_
  refine r_sipush (v := 500) C dX11_init_72 rfl ?_
  refine r_newaI 0 .int rfl 0 rfl ra_int rfl (N' := 500) C k67 (by decide) rfl (by decide) w.1.1 w.1.2 dX11_init_75 ?_
  have w := w.2 _ rfl
  generalize h16 ++ [.inl (0, List.replicate 500 0)] = h17 at w ⊢
  refine r_putF C D fcX11 (f := 25) (by decide) rfl rfl rfl rfl (ft_A _ _) k968 dX11_init_77 (w.mono fun h18 w => ?_)
  refine r_aload_n C dX11_init_80 rfl 0 rfl ?_
  refine r_getP C fcX11 (f := 0) (by decide) rfl k943 dX11_init_81 (w.mono fun x19 w => ?_)
  refine r_iconst (v := 0) C dX11_init_84 rfl ?_
  refine r_bipush (v := 20) C dX11_init_85 rfl ?_
  refine r_iast C dX11_init_87 (w.mono fun h20 w => ?_)
  refine r_aload_n C dX11_init_88 rfl 0 rfl ?_
  refine r_getP C fcX11 (f := 0) (by decide) rfl k943 dX11_init_89 (w.mono fun x21 w => ?_)
  refine r_iconst (v := 1) C dX11_init_92 rfl ?_
  refine r_bipush (v := 20) C dX11_init_93 rfl ?_
  refine r_iast C dX11_init_95 (w.mono fun h22 w => ?_)
  exact r_vret C D rfl w.1.1 w.1.2 dX11_init_96 w.2
theorem eX11_init {E : EV} {post : Option AV → AH → Prop} {h : AH} {l0 : Nat} (w : PX11_init_0 E post 0 0 h l0) : sX11_init E [aP (some l0)] h post := Spec.of RX11 rfl rfl (Nat.le_of_ble_eq_true rfl) fun X C D => bX11_init_0 C D w
theorem dX11_isIn_0 : decode cX11_isIn 0 = .ok (.iconst 1, 1) := by decide +kernel
theorem dX11_isIn_1 : decode cX11_isIn 1 = .ok (.istore 5, 2) := by decide +kernel
theorem dX11_isIn_3 : decode cX11_isIn 3 = .ok (.iconst 0, 1) := by decide +kernel
theorem dX11_isIn_4 : decode cX11_isIn 4 = .ok (.istore 6, 2) := by decide +kernel
theorem dX11_isIn_6 : decode cX11_isIn 6 = .ok (.iload 6, 2) := by decide +kernel
theorem dX11_isIn_8 : decode cX11_isIn 8 = .ok (.aload_n 0, 1) := by decide +kernel
theorem dX11_isIn_9 : decode cX11_isIn 9 = .ok (.iload_n 1, 1) := by decide +kernel
theorem dX11_isIn_10 : decode cX11_isIn 10 = .ok (.iload_n 2, 1) := by decide +kernel
theorem dX11_isIn_11 : decode cX11_isIn 11 = .ok (.invokevirtual 54, 3) := by decide +kernel
theorem dX11_isIn_14 : decode cX11_isIn 14 = .ok (.if_icmp .ge 93, 3) := by decide +kernel
theorem dX11_isIn_17 : decode cX11_isIn 17 = .ok (.aload_n 0, 1) := by decide +kernel
theorem dX11_isIn_18 : decode cX11_isIn 18 = .ok (.iload_n 1, 1) := by decide +kernel
theorem dX11_isIn_19 : decode cX11_isIn 19 = .ok (.iload_n 2, 1) := by decide +kernel
theorem dX11_isIn_20 : decode cX11_isIn 20 = .ok (.iload 6, 2) := by decide +kernel
theorem dX11_isIn_22 : decode cX11_isIn 22 = .ok (.iconst 1, 1) := by decide +kernel
theorem dX11_isIn_23 : decode cX11_isIn 23 = .ok (.iadd, 1) := by decide +kernel
theorem dX11_isIn_24 : decode cX11_isIn 24 = .ok (.invokevirtual 58, 3) := by decide +kernel
theorem dX11_isIn_27 : decode cX11_isIn 27 = .ok (.aload_n 0, 1) := by decide +kernel
theorem dX11_isIn_28 : decode cX11_isIn 28 = .ok (.iload_n 1, 1) := by decide +kernel
theorem dX11_isIn_29 : decode cX11_isIn 29 = .ok (.iload_n 2, 1) := by decide +kernel
theorem dX11_isIn_30 : decode cX11_isIn 30 = .ok (.iload 6, 2) := by decide +kernel
theorem dX11_isIn_32 : decode cX11_isIn 32 = .ok (.invokevirtual 58, 3) := by decide +kernel
theorem dX11_isIn_35 : decode cX11_isIn 35 = .ok (.isub, 1) := by decide +kernel
theorem dX11_isIn_36 : decode cX11_isIn 36 = .ok (.istore 7, 2) := by decide +kernel
theorem dX11_isIn_38 : decode cX11_isIn 38 = .ok (.aload_n 0, 1) := by decide +kernel
theorem dX11_isIn_39 : decode cX11_isIn 39 = .ok (.iload_n 1, 1) := by decide +kernel
theorem dX11_isIn_40 : decode cX11_isIn 40 = .ok (.iload_n 2, 1) := by decide +kernel
theorem dX11_isIn_41 : decode cX11_isIn 41 = .ok (.iload 6, 2) := by decide +kernel
theorem dX11_isIn_43 : decode cX11_isIn 43 = .ok (.iconst 1, 1) := by decide +kernel
theorem dX11_isIn_44 : decode cX11_isIn 44 = .ok (.iadd, 1) := by decide +kernel
theorem dX11_isIn_45 : decode cX11_isIn 45 = .ok (.invokevirtual 62, 3) := by decide +kernel
theorem dX11_isIn_48 : decode cX11_isIn 48 = .ok (.aload_n 0, 1) := by decide +kernel
theorem dX11_isIn_49 : decode cX11_isIn 49 = .ok (.iload_n 1, 1) := by decide +kernel
theorem dX11_isIn_50 : decode cX11_isIn 50 = .ok (.iload_n 2, 1) := by decide +kernel
theorem dX11_isIn_51 : decode cX11_isIn 51 = .ok (.iload 6, 2) := by decide +kernel
theorem dX11_isIn_53 : decode cX11_isIn 53 = .ok (.invokevirtual 62, 3) := by decide +kernel
theorem dX11_isIn_56 : decode cX11_isIn 56 = .ok (.isub, 1) := by decide +kernel
theorem dX11_isIn_57 : decode cX11_isIn 57 = .ok (.istore 8, 2) := by decide +kernel
theorem dX11_isIn_59 : decode cX11_isIn 59 = .ok (.iload 5, 2) := by decide +kernel
theorem dX11_isIn_61 : decode cX11_isIn 61 = .ok (.ifCond .eq 37, 3) := by decide +kernel
theorem dX11_isIn_64 : decode cX11_isIn 64 = .ok (.iload 7, 2) := by decide +kernel
theorem dX11_isIn_66 : decode cX11_isIn 66 = .ok (.iload 4, 2) := by decide +kernel
theorem dX11_isIn_68 : decode cX11_isIn 68 = .ok (.aload_n 0, 1) := by decide +kernel
theorem dX11_isIn_69 : decode cX11_isIn 69 = .ok (.iload_n 1, 1) := by decide +kernel
theorem dX11_isIn_70 : decode cX11_isIn 70 = .ok (.iload_n 2, 1) := by decide +kernel
theorem dX11_isIn_71 : decode cX11_isIn 71 = .ok (.iload 6, 2) := by decide +kernel
theorem dX11_isIn_73 : decode cX11_isIn 73 = .ok (.invokevirtual 62, 3) := by decide +kernel
theorem dX11_isIn_76 : decode cX11_isIn 76 = .ok (.isub, 1) := by decide +kernel
theorem dX11_isIn_77 : decode cX11_isIn 77 = .ok (.imul, 1) := by decide +kernel
theorem dX11_isIn_78 : decode cX11_isIn 78 = .ok (.iload 8, 2) := by decide +kernel
theorem dX11_isIn_80 : decode cX11_isIn 80 = .ok (.iload_n 3, 1) := by decide +kernel
theorem dX11_isIn_81 : decode cX11_isIn 81 = .ok (.aload_n 0, 1) := by decide +kernel
theorem dX11_isIn_82 : decode cX11_isIn 82 = .ok (.iload_n 1, 1) := by decide +kernel
theorem dX11_isIn_83 : decode cX11_isIn 83 = .ok (.iload_n 2, 1) := by decide +kernel
theorem dX11_isIn_84 : decode cX11_isIn 84 = .ok (.iload 6, 2) := by decide +kernel
theorem dX11_isIn_86 : decode cX11_isIn 86 = .ok (.invokevirtual 58, 3) := by decide +kernel
theorem dX11_isIn_89 : decode cX11_isIn 89 = .ok (.isub, 1) := by decide +kernel
theorem dX11_isIn_90 : decode cX11_isIn 90 = .ok (.imul, 1) := by decide +kernel
theorem dX11_isIn_91 : decode cX11_isIn 91 = .ok (.if_icmp .lt 7, 3) := by decide +kernel
theorem dX11_isIn_94 : decode cX11_isIn 94 = .ok (.iconst 1, 1) := by decide +kernel
theorem dX11_isIn_95 : decode cX11_isIn 95 = .ok (.goto 4, 3) := by decide +kernel
theorem dX11_isIn_98 : decode cX11_isIn 98 = .ok (.iconst 0, 1) := by decide +kernel
theorem dX11_isIn_99 : decode cX11_isIn 99 = .ok (.istore 5, 2) := by decide +kernel
theorem dX11_isIn_101 : decode cX11_isIn 101 = .ok (.iinc 6 1, 3) := by decide +kernel
theorem dX11_isIn_104 : decode cX11_isIn 104 = .ok (.goto (-98), 3) := by decide +kernel
theorem dX11_isIn_107 : decode cX11_isIn 107 = .ok (.iload 5, 2) := by decide +kernel
theorem dX11_isIn_109 : decode cX11_isIn 109 = .ok (.ireturn, 1) := by decide +kernel
abbrev rmX11_isIn : Room := { frames := 1, cells := 0, slots := 0, locals := 40 }
abbrev sX11_isIn (E : EV) : List AV → AH → (Option AV → AH → Prop) → Prop := Spec E yX11_isIn cX11_isIn 9 (some .boolean) rmX11_isIn
theorem mX11_isIn : Mt yX11_isIn cX11_isIn 9 (some .boolean) 4 := ⟨k1400, k12, by decide +kernel⟩
theorem vX11_isIn : MtV yX11_isIn 11 := ⟨k1399, kp80, by decide, (RX11, TX11, 26), rfl, rfl⟩
def PX11_isIn_98 (E : EV) (post : Option AV → AH → Prop) (J6 : AH → Option Nat → Int32 → Int32 → Int32 → Int32 → Int32 → Int32 → Prop) (h : AH) (l0 : Option Nat) (l1 : Int32) (l2 : Int32) (l3 : Int32) (l4 : Int32) (l6 : Int32) : Prop :=
  J6 h l0 l1 l2 l3 l4 (0 : Int32) (l6 + (1 : Int32))
theorem bX11_isIn_98 {E : EV} {X : AX} {post : Option AV → AH → Prop} (C : Cb E X cX11_isIn RX11 9 rmX11_isIn) (D : Cr E X (some .boolean) rmX11_isIn "isIn" post) {J6 : AH → Option Nat → Int32 → Int32 → Int32 → Int32 → Int32 → Int32 → Prop} (g6 : ∀ (h : AH) (l0 : Option Nat) (l1 : Int32) (l2 : Int32) (l3 : Int32) (l4 : Int32) (l5 : Int32) (l6 : Int32), J6 h l0 l1 l2 l3 l4 l5 l6 → Go E X 9 0 0 6 [(0, aP l0), (1, aI l1), (2, aI l2), (3, aI l3), (4, aI l4), (5, aI l5), (6, aI l6)] [] h) {h : AH} {l0 : Option Nat} {l1 : Int32} {l2 : Int32} {l3 : Int32} {l4 : Int32} {l6 : Int32} (w : PX11_isIn_98 E post J6 h l0 l1 l2 l3 l4 l6) : Go E X 9 0 0 98 [(0, aP l0), (1, aI l1), (2, aI l2), (3, aI l3), (4, aI l4), (6, aI l6)] [] h := by
  unfold PX11_isIn_98 at w
  refine r_iconst (v := 0) C dX11_isIn_98 rfl ?_
  refine r_istore C dX11_isIn_99 (by decide) rfl ?_
  refine r_iinc C dX11_isIn_101 6 rfl (v := 1) rfl (by decide) rfl ?_
  refine r_goto C dX11_isIn_104 (tgt := 6) rfl ?_
  exact r_sub [2, 3, 4, 5, 6, 1, 0] rfl (g6 h l0 l1 l2 l3 l4 (0 : Int32) (l6 + (1 : Int32)) w)
def PX11_isIn_6 (E : EV) (post : Option AV → AH → Prop) (J6 : AH → Option Nat → Int32 → Int32 → Int32 → Int32 → Int32 → Int32 → Prop) (h : AH) (l0 : Option Nat) (l1 : Int32) (l2 : Int32) (l3 : Int32) (l4 : Int32) (l5 : Int32) (l6 : Int32) : Prop :=
  CV (sX11_vertices E) l0 11 [aI l1, aI l2] h (kI fun x1 h2 => (x1 ≤ l6 → (l5 = 0 ∨ l5 = 1) ∧ post (some (aI l5)) h2) ∧ (¬ x1 ≤ l6 → CV (sX11_xOf E) l0 11 [aI l1, aI l2, aI (l6 + (1 : Int32))] h2 (kI fun x3 h4 => CV (sX11_xOf E) l0 11 [aI l1, aI l2, aI l6] h4 (kI fun x5 h6 => ∀ v7, v7 = (x3 - x5) → CV (sX11_yOf E) l0 11 [aI l1, aI l2, aI (l6 + (1 : Int32))] h6 (kI fun x8 h9 => CV (sX11_yOf E) l0 11 [aI l1, aI l2, aI l6] h9 (kI fun x10 h11 => ∀ v12, v12 = (x8 - x10) → (l5 = 0 → PX11_isIn_98 E post J6 h11 l0 l1 l2 l3 l4 l6) ∧ (¬ l5 = 0 → CV (sX11_yOf E) l0 11 [aI l1, aI l2, aI l6] h11 (kI fun x13 h14 => CV (sX11_xOf E) l0 11 [aI l1, aI l2, aI l6] h14 (kI fun x15 h16 => ((v7 * (l4 - x13)) < (v12 * (l3 - x15)) → PX11_isIn_98 E post J6 h16 l0 l1 l2 l3 l4 l6) ∧ (¬ (v7 * (l4 - x13)) < (v12 * (l3 - x15)) → J6 h16 l0 l1 l2 l3 l4 (1 : Int32) (l6 + (1 : Int32))))))))))))
theorem bX11_isIn_6 {E : EV} {X : AX} {post : Option AV → AH → Prop} (C : Cb E X cX11_isIn RX11 9 rmX11_isIn) (D : Cr E X (some .boolean) rmX11_isIn "isIn" post) {J6 : AH → Option Nat → Int32 → Int32 → Int32 → Int32 → Int32 → Int32 → Prop} (g6 : ∀ (h : AH) (l0 : Option Nat) (l1 : Int32) (l2 : Int32) (l3 : Int32) (l4 : Int32) (l5 : Int32) (l6 : Int32), J6 h l0 l1 l2 l3 l4 l5 l6 → Go E X 9 0 0 6 [(0, aP l0), (1, aI l1), (2, aI l2), (3, aI l3), (4, aI l4), (5, aI l5), (6, aI l6)] [] h) {h : AH} {l0 : Option Nat} {l1 : Int32} {l2 : Int32} {l3 : Int32} {l4 : Int32} {l5 : Int32} {l6 : Int32} (w : PX11_isIn_6 E post J6 h l0 l1 l2 l3 l4 l5 l6) : Go E X 9 0 0 6 [(0, aP l0), (1, aI l1), (2, aI l2), (3, aI l3), (4, aI l4), (5, aI l5), (6, aI l6)] [] h := by
  unfold PX11_isIn_6 at w
  refine r_iload C dX11_isIn_6 6 rfl ?_
  refine r_aload_n C dX11_isIn_8 rfl 0 rfl ?_
  refine r_iload_n C dX11_isIn_9 rfl 1 rfl ?_
  refine r_iload_n C dX11_isIn_10 rfl 2 rfl ?_
  refine r_cvI (rm' := rmX11_vertices) C mX11_vertices vX11_vertices k1072 [aI l1, aI l2] [aI l6] rfl rfl (Nat.le_of_ble_eq_true rfl) (by decide) ⟨Nat.zero_le _, Nat.zero_le _⟩ 0 0 rfl rfl dX11_isIn_11 w (fun x1 h2 w => ?_)
  refine r_icmp_ge C dX11_isIn_14 (tgt := 107) rfl (fun hc => ?_) (fun hc => ?_)
  · have w := w.1 hc
    refine r_iload C dX11_isIn_107 5 rfl ?_
    exact r_zret C D rfl w.1 (Nat.zero_le _) (Nat.zero_le _) dX11_isIn_109 w.2
  · have w := w.2 hc
    refine r_aload_n C dX11_isIn_17 rfl 0 rfl ?_
    refine r_iload_n C dX11_isIn_18 rfl 1 rfl ?_
    refine r_iload_n C dX11_isIn_19 rfl 2 rfl ?_
    refine r_iload C dX11_isIn_20 6 rfl ?_
    refine r_iconst (v := 1) C dX11_isIn_22 rfl ?_
    refine r_iadd C dX11_isIn_23 ?_
    refine r_cvI (rm' := rmX11_xOf) C mX11_xOf vX11_xOf k1076 [aI l1, aI l2, aI (l6 + (1 : Int32))] [] rfl rfl (Nat.le_of_ble_eq_true rfl) (by decide) ⟨Nat.zero_le _, Nat.zero_le _⟩ 0 0 rfl rfl dX11_isIn_24 w (fun x3 h4 w => ?_)
    refine r_aload_n C dX11_isIn_27 rfl 0 rfl ?_
    refine r_iload_n C dX11_isIn_28 rfl 1 rfl ?_
    refine r_iload_n C dX11_isIn_29 rfl 2 rfl ?_
    refine r_iload C dX11_isIn_30 6 rfl ?_
    refine r_cvI (rm' := rmX11_xOf) C mX11_xOf vX11_xOf k1076 [aI l1, aI l2, aI l6] [aI x3] rfl rfl (Nat.le_of_ble_eq_true rfl) (by decide) ⟨Nat.zero_le _, Nat.zero_le _⟩ 0 0 rfl rfl dX11_isIn_32 w (fun x5 h6 w => ?_)
    refine r_isub C dX11_isIn_35 ?_
    refine r_istore C dX11_isIn_36 (by decide) rfl ?_
    have w := w _ rfl
    skip
    refine r_aload_n C dX11_isIn_38 rfl 1 rfl ?_
    refine r_iload_n C dX11_isIn_39 rfl 2 rfl ?_
    refine r_iload_n C dX11_isIn_40 rfl 3 rfl ?_
    refine r_iload C dX11_isIn_41 7 rfl ?_
    refine r_iconst (v := 1) C dX11_isIn_43 rfl ?_
    refine r_iadd C dX11_isIn_44 ?_
    refine r_cvI (rm' := rmX11_yOf) C mX11_yOf vX11_yOf k1080 [aI l1, aI l2, aI (l6 + (1 : Int32))] [] rfl rfl (Nat.le_of_ble_eq_true rfl) (by decide) ⟨Nat.zero_le _, Nat.zero_le _⟩ 0 0 rfl rfl dX11_isIn_45 w (fun x8 h9 w => ?_)
    refine r_aload_n C dX11_isIn_48 rfl 1 rfl ?_
    refine r_iload_n C dX11_isIn_49 rfl 2 rfl ?_
    refine r_iload_n C dX11_isIn_50 rfl 3 rfl ?_
    refine r_iload C dX11_isIn_51 7 rfl ?_
    refine r_cvI (rm' := rmX11_yOf) C mX11_yOf vX11_yOf k1080 [aI l1, aI l2, aI l6] [aI x8] rfl rfl (Nat.le_of_ble_eq_true rfl) (by decide) ⟨Nat.zero_le _, Nat.zero_le _⟩ 0 0 rfl rfl dX11_isIn_53 w (fun x10 h11 w => ?_)
    refine r_isub C dX11_isIn_56 ?_
    refine r_istore C dX11_isIn_57 (by decide) rfl ?_
    have w := w _ rfl
    skip
    refine r_iload C dX11_isIn_59 7 rfl ?_
    refine r_if_eq C dX11_isIn_61 (tgt := 98) rfl (fun hc => ?_) (fun hc => ?_)
    · have w := w.1 hc
      exact r_sub [2, 3, 4, 5, 6, 8] rfl (bX11_isIn_98 C D g6 w)
    · have w := w.2 hc
      refine r_iload C dX11_isIn_64 1 rfl ?_
      refine r_iload C dX11_isIn_66 6 rfl ?_
      refine r_aload_n C dX11_isIn_68 rfl 2 rfl ?_
      refine r_iload_n C dX11_isIn_69 rfl 3 rfl ?_
      refine r_iload_n C dX11_isIn_70 rfl 4 rfl ?_
      refine r_iload C dX11_isIn_71 8 rfl ?_
      refine r_cvI (rm' := rmX11_yOf) C mX11_yOf vX11_yOf k1080 [aI l1, aI l2, aI l6] [aI l4, aI (x3 - x5)] rfl rfl (Nat.le_of_ble_eq_true rfl) (by decide) ⟨Nat.zero_le _, Nat.zero_le _⟩ 0 0 rfl rfl dX11_isIn_73 w (fun x13 h14 w => ?_)
      refine r_isub C dX11_isIn_76 ?_
      refine r_imul C dX11_isIn_77 ?_
      refine r_iload C dX11_isIn_78 0 rfl ?_
      refine r_iload_n C dX11_isIn_80 rfl 5 rfl ?_
      refine r_aload_n C dX11_isIn_81 rfl 2 rfl ?_
      refine r_iload_n C dX11_isIn_82 rfl 3 rfl ?_
      refine r_iload_n C dX11_isIn_83 rfl 4 rfl ?_
      refine r_iload C dX11_isIn_84 8 rfl ?_
      refine r_cvI (rm' := rmX11_xOf) C mX11_xOf vX11_xOf k1076 [aI l1, aI l2, aI l6] [aI l3, aI (x8 - x10), aI ((x3 - x5) * (l4 - x13))] rfl rfl (Nat.le_of_ble_eq_true rfl) (by decide) ⟨Nat.zero_le _, Nat.zero_le _⟩ 0 0 rfl rfl dX11_isIn_86 w (fun x15 h16 w => ?_)
      refine r_isub C dX11_isIn_89 ?_
      refine r_imul C dX11_isIn_90 ?_
      refine r_icmp_lt C dX11_isIn_91 (tgt := 98) rfl (fun hc => ?_) (fun hc => ?_)
      · have w := w.1 hc
        exact r_sub [2, 3, 4, 5, 6, 8] rfl (bX11_isIn_98 C D g6 w)
      · have w := w.2 hc
        refine r_iconst (v := 1) C dX11_isIn_94 rfl ?_
        refine r_goto C dX11_isIn_95 (tgt := 99) rfl ?_
        refine r_istore C dX11_isIn_99 (by decide) rfl ?_
        refine r_iinc C dX11_isIn_101 8 rfl (v := 1) rfl (by decide) rfl ?_
        refine r_goto C dX11_isIn_104 (tgt := 6) rfl ?_
        exact r_sub [4, 5, 6, 7, 8, 1, 0] rfl (g6 h16 l0 l1 l2 l3 l4 (1 : Int32) (l6 + (1 : Int32)) w)
theorem lpX11_isIn_6 {E : EV} {X : AX} {post : Option AV → AH → Prop} (C : Cb E X cX11_isIn RX11 9 rmX11_isIn) (D : Cr E X (some .boolean) rmX11_isIn "isIn" post) (I : Nat → AH → Option Nat → Int32 → Int32 → Int32 → Int32 → Int32 → Int32 → Prop) (step : ∀ (z : Nat) (h : AH) (l0 : Option Nat) (l1 : Int32) (l2 : Int32) (l3 : Int32) (l4 : Int32) (l5 : Int32) (l6 : Int32), I z h l0 l1 l2 l3 l4 l5 l6 → PX11_isIn_6 E post (fun h l0 l1 l2 l3 l4 l5 l6 => ∃ z', z' < z ∧ I z' h l0 l1 l2 l3 l4 l5 l6) h l0 l1 l2 l3 l4 l5 l6) : ∀ (z : Nat) (h : AH) (l0 : Option Nat) (l1 : Int32) (l2 : Int32) (l3 : Int32) (l4 : Int32) (l5 : Int32) (l6 : Int32), I z h l0 l1 l2 l3 l4 l5 l6 → Go E X 9 0 0 6 [(0, aP l0), (1, aI l1), (2, aI l2), (3, aI l3), (4, aI l4), (5, aI l5), (6, aI l6)] [] h := by
  intro z
  induction z using Nat.strongRecOn with
  | _ z ih =>
    intro h l0 l1 l2 l3 l4 l5 l6 hI
    exact bX11_isIn_6 C D (fun h l0 l1 l2 l3 l4 l5 l6 hJ => by obtain ⟨z', hz, hi⟩ := hJ; exact ih z' hz h l0 l1 l2 l3 l4 l5 l6 hi) (step z h l0 l1 l2 l3 l4 l5 l6 hI)
def PX11_isIn_0 (E : EV) (post : Option AV → AH → Prop) (J6 : AH → Option Nat → Int32 → Int32 → Int32 → Int32 → Int32 → Int32 → Prop) (h : AH) (l0 : Option Nat) (l1 : Int32) (l2 : Int32) (l3 : Int32) (l4 : Int32) : Prop :=
  J6 h l0 l1 l2 l3 l4 (1 : Int32) (0 : Int32)
theorem bX11_isIn_0 {E : EV} {X : AX} {post : Option AV → AH → Prop} (C : Cb E X cX11_isIn RX11 9 rmX11_isIn) (D : Cr E X (some .boolean) rmX11_isIn "isIn" post) {J6 : AH → Option Nat → Int32 → Int32 → Int32 → Int32 → Int32 → Int32 → Prop} (g6 : ∀ (h : AH) (l0 : Option Nat) (l1 : Int32) (l2 : Int32) (l3 : Int32) (l4 : Int32) (l5 : Int32) (l6 : Int32), J6 h l0 l1 l2 l3 l4 l5 l6 → Go E X 9 0 0 6 [(0, aP l0), (1, aI l1), (2, aI l2), (3, aI l3), (4, aI l4), (5, aI l5), (6, aI l6)] [] h) {h : AH} {l0 : Option Nat} {l1 : Int32} {l2 : Int32} {l3 : Int32} {l4 : Int32} (w : PX11_isIn_0 E post J6 h l0 l1 l2 l3 l4) : Go E X 9 0 0 0 [(0, aP l0), (1, aI l1), (2, aI l2), (3, aI l3), (4, aI l4)] [] h := by
  unfold PX11_isIn_0 at w
  refine r_iconst (v := 1) C dX11_isIn_0 rfl ?_
  refine r_istore C dX11_isIn_1 (by decide) rfl ?_
  refine r_iconst (v := 0) C dX11_isIn_3 rfl ?_
  refine r_istore C dX11_isIn_4 (by decide) rfl ?_
  exact r_sub [2, 3, 4, 5, 6, 1, 0] rfl (g6 h l0 l1 l2 l3 l4 (1 : Int32) (0 : Int32) w)
theorem eX11_isIn {E : EV} {post : Option AV → AH → Prop} {h : AH} {l0 : Option Nat} {l1 : Int32} {l2 : Int32} {l3 : Int32} {l4 : Int32} {J6 : AH → Option Nat → Int32 → Int32 → Int32 → Int32 → Int32 → Int32 → Prop} (g6 : ∀ X : AX, Cb E X cX11_isIn RX11 9 rmX11_isIn → Cr E X (some .boolean) rmX11_isIn "isIn" post → ∀ (h : AH) (l0 : Option Nat) (l1 : Int32) (l2 : Int32) (l3 : Int32) (l4 : Int32) (l5 : Int32) (l6 : Int32), J6 h l0 l1 l2 l3 l4 l5 l6 → Go E X 9 0 0 6 [(0, aP l0), (1, aI l1), (2, aI l2), (3, aI l3), (4, aI l4), (5, aI l5), (6, aI l6)] [] h) (w : PX11_isIn_0 E post J6 h l0 l1 l2 l3 l4) : sX11_isIn E [aP l0, aI l1, aI l2, aI l3, aI l4] h post := Spec.of RX11 rfl rfl (Nat.le_of_ble_eq_true rfl) fun X C D => bX11_isIn_0 C D (g6 X C D) w
theorem dX11_isPiece_0 : decode cX11_isPiece 0 = .ok (.aload_n 0, 1) := by decide +kernel
theorem dX11_isPiece_1 : decode cX11_isPiece 1 = .ok (.sipush 500, 3) := by decide +kernel
theorem dX11_isPiece_4 : decode cX11_isPiece 4 = .ok (.iload_n 1, 1) := by decide +kernel
theorem dX11_isPiece_5 : decode cX11_isPiece 5 = .ok (.invokevirtual 54, 3) := by decide +kernel
theorem dX11_isPiece_8 : decode cX11_isPiece 8 = .ok (.istore_n 2, 1) := by decide +kernel
theorem dX11_isPiece_9 : decode cX11_isPiece 9 = .ok (.iconst 0, 1) := by decide +kernel
theorem dX11_isPiece_10 : decode cX11_isPiece 10 = .ok (.istore_n 3, 1) := by decide +kernel
theorem dX11_isPiece_11 : decode cX11_isPiece 11 = .ok (.iload_n 3, 1) := by decide +kernel
theorem dX11_isPiece_12 : decode cX11_isPiece 12 = .ok (.iload_n 2, 1) := by decide +kernel
theorem dX11_isPiece_13 : decode cX11_isPiece 13 = .ok (.if_icmp .ge 125, 3) := by decide +kernel
theorem dX11_isPiece_16 : decode cX11_isPiece 16 = .ok (.aload_n 0, 1) := by decide +kernel
theorem dX11_isPiece_17 : decode cX11_isPiece 17 = .ok (.sipush 500, 3) := by decide +kernel
theorem dX11_isPiece_20 : decode cX11_isPiece 20 = .ok (.iload_n 1, 1) := by decide +kernel
theorem dX11_isPiece_21 : decode cX11_isPiece 21 = .ok (.iload_n 3, 1) := by decide +kernel
theorem dX11_isPiece_22 : decode cX11_isPiece 22 = .ok (.iconst 1, 1) := by decide +kernel
theorem dX11_isPiece_23 : decode cX11_isPiece 23 = .ok (.iadd, 1) := by decide +kernel
theorem dX11_isPiece_24 : decode cX11_isPiece 24 = .ok (.invokevirtual 58, 3) := by decide +kernel
theorem dX11_isPiece_27 : decode cX11_isPiece 27 = .ok (.aload_n 0, 1) := by decide +kernel
theorem dX11_isPiece_28 : decode cX11_isPiece 28 = .ok (.sipush 500, 3) := by decide +kernel
theorem dX11_isPiece_31 : decode cX11_isPiece 31 = .ok (.iload_n 1, 1) := by decide +kernel
theorem dX11_isPiece_32 : decode cX11_isPiece 32 = .ok (.iload_n 3, 1) := by decide +kernel
theorem dX11_isPiece_33 : decode cX11_isPiece 33 = .ok (.invokevirtual 58, 3) := by decide +kernel
theorem dX11_isPiece_36 : decode cX11_isPiece 36 = .ok (.isub, 1) := by decide +kernel
theorem dX11_isPiece_37 : decode cX11_isPiece 37 = .ok (.istore 4, 2) := by decide +kernel
theorem dX11_isPiece_39 : decode cX11_isPiece 39 = .ok (.aload_n 0, 1) := by decide +kernel
theorem dX11_isPiece_40 : decode cX11_isPiece 40 = .ok (.sipush 500, 3) := by decide +kernel
theorem dX11_isPiece_43 : decode cX11_isPiece 43 = .ok (.iload_n 1, 1) := by decide +kernel
theorem dX11_isPiece_44 : decode cX11_isPiece 44 = .ok (.iload_n 3, 1) := by decide +kernel
theorem dX11_isPiece_45 : decode cX11_isPiece 45 = .ok (.iconst 1, 1) := by decide +kernel
theorem dX11_isPiece_46 : decode cX11_isPiece 46 = .ok (.iadd, 1) := by decide +kernel
theorem dX11_isPiece_47 : decode cX11_isPiece 47 = .ok (.invokevirtual 62, 3) := by decide +kernel
theorem dX11_isPiece_50 : decode cX11_isPiece 50 = .ok (.aload_n 0, 1) := by decide +kernel
theorem dX11_isPiece_51 : decode cX11_isPiece 51 = .ok (.sipush 500, 3) := by decide +kernel
theorem dX11_isPiece_54 : decode cX11_isPiece 54 = .ok (.iload_n 1, 1) := by decide +kernel
theorem dX11_isPiece_55 : decode cX11_isPiece 55 = .ok (.iload_n 3, 1) := by decide +kernel
theorem dX11_isPiece_56 : decode cX11_isPiece 56 = .ok (.invokevirtual 62, 3) := by decide +kernel
theorem dX11_isPiece_59 : decode cX11_isPiece 59 = .ok (.isub, 1) := by decide +kernel
theorem dX11_isPiece_60 : decode cX11_isPiece 60 = .ok (.istore 5, 2) := by decide +kernel
theorem dX11_isPiece_62 : decode cX11_isPiece 62 = .ok (.iload_n 3, 1) := by decide +kernel
theorem dX11_isPiece_63 : decode cX11_isPiece 63 = .ok (.iconst 2, 1) := by decide +kernel
theorem dX11_isPiece_64 : decode cX11_isPiece 64 = .ok (.iadd, 1) := by decide +kernel
theorem dX11_isPiece_65 : decode cX11_isPiece 65 = .ok (.istore 6, 2) := by decide +kernel
theorem dX11_isPiece_67 : decode cX11_isPiece 67 = .ok (.iload 6, 2) := by decide +kernel
theorem dX11_isPiece_69 : decode cX11_isPiece 69 = .ok (.iload_n 3, 1) := by decide +kernel
theorem dX11_isPiece_70 : decode cX11_isPiece 70 = .ok (.iload_n 2, 1) := by decide +kernel
theorem dX11_isPiece_71 : decode cX11_isPiece 71 = .ok (.iadd, 1) := by decide +kernel
theorem dX11_isPiece_72 : decode cX11_isPiece 72 = .ok (.if_icmp .ge 60, 3) := by decide +kernel
theorem dX11_isPiece_75 : decode cX11_isPiece 75 = .ok (.iload 4, 2) := by decide +kernel
theorem dX11_isPiece_77 : decode cX11_isPiece 77 = .ok (.aload_n 0, 1) := by decide +kernel
theorem dX11_isPiece_78 : decode cX11_isPiece 78 = .ok (.sipush 500, 3) := by decide +kernel
theorem dX11_isPiece_81 : decode cX11_isPiece 81 = .ok (.iload_n 1, 1) := by decide +kernel
theorem dX11_isPiece_82 : decode cX11_isPiece 82 = .ok (.iload 6, 2) := by decide +kernel
theorem dX11_isPiece_84 : decode cX11_isPiece 84 = .ok (.invokevirtual 62, 3) := by decide +kernel
theorem dX11_isPiece_87 : decode cX11_isPiece 87 = .ok (.aload_n 0, 1) := by decide +kernel
theorem dX11_isPiece_88 : decode cX11_isPiece 88 = .ok (.sipush 500, 3) := by decide +kernel
theorem dX11_isPiece_91 : decode cX11_isPiece 91 = .ok (.iload_n 1, 1) := by decide +kernel
theorem dX11_isPiece_92 : decode cX11_isPiece 92 = .ok (.iload_n 3, 1) := by decide +kernel
theorem dX11_isPiece_93 : decode cX11_isPiece 93 = .ok (.invokevirtual 62, 3) := by decide +kernel
theorem dX11_isPiece_96 : decode cX11_isPiece 96 = .ok (.isub, 1) := by decide +kernel
theorem dX11_isPiece_97 : decode cX11_isPiece 97 = .ok (.imul, 1) := by decide +kernel
theorem dX11_isPiece_98 : decode cX11_isPiece 98 = .ok (.iload 5, 2) := by decide +kernel
theorem dX11_isPiece_100 : decode cX11_isPiece 100 = .ok (.aload_n 0, 1) := by decide +kernel
theorem dX11_isPiece_101 : decode cX11_isPiece 101 = .ok (.sipush 500, 3) := by decide +kernel
theorem dX11_isPiece_104 : decode cX11_isPiece 104 = .ok (.iload_n 1, 1) := by decide +kernel
theorem dX11_isPiece_105 : decode cX11_isPiece 105 = .ok (.iload 6, 2) := by decide +kernel
theorem dX11_isPiece_107 : decode cX11_isPiece 107 = .ok (.invokevirtual 58, 3) := by decide +kernel
theorem dX11_isPiece_110 : decode cX11_isPiece 110 = .ok (.aload_n 0, 1) := by decide +kernel
theorem dX11_isPiece_111 : decode cX11_isPiece 111 = .ok (.sipush 500, 3) := by decide +kernel
theorem dX11_isPiece_114 : decode cX11_isPiece 114 = .ok (.iload_n 1, 1) := by decide +kernel
theorem dX11_isPiece_115 : decode cX11_isPiece 115 = .ok (.iload_n 3, 1) := by decide +kernel
theorem dX11_isPiece_116 : decode cX11_isPiece 116 = .ok (.invokevirtual 58, 3) := by decide +kernel
theorem dX11_isPiece_119 : decode cX11_isPiece 119 = .ok (.isub, 1) := by decide +kernel
theorem dX11_isPiece_120 : decode cX11_isPiece 120 = .ok (.imul, 1) := by decide +kernel
theorem dX11_isPiece_121 : decode cX11_isPiece 121 = .ok (.if_icmp .gt 5, 3) := by decide +kernel
theorem dX11_isPiece_124 : decode cX11_isPiece 124 = .ok (.iconst 0, 1) := by decide +kernel
theorem dX11_isPiece_125 : decode cX11_isPiece 125 = .ok (.ireturn, 1) := by decide +kernel
theorem dX11_isPiece_126 : decode cX11_isPiece 126 = .ok (.iinc 6 1, 3) := by decide +kernel
theorem dX11_isPiece_129 : decode cX11_isPiece 129 = .ok (.goto (-62), 3) := by decide +kernel
theorem dX11_isPiece_132 : decode cX11_isPiece 132 = .ok (.iinc 3 1, 3) := by decide +kernel
theorem dX11_isPiece_135 : decode cX11_isPiece 135 = .ok (.goto (-124), 3) := by decide +kernel
theorem dX11_isPiece_138 : decode cX11_isPiece 138 = .ok (.iconst 1, 1) := by decide +kernel
theorem dX11_isPiece_139 : decode cX11_isPiece 139 = .ok (.ireturn, 1) := by decide +kernel
abbrev rmX11_isPiece : Room := { frames := 1, cells := 0, slots := 0, locals := 40 }
abbrev sX11_isPiece (E : EV) : List AV → AH → (Option AV → AH → Prop) → Prop := Spec E yX11_isPiece cX11_isPiece 7 (some .boolean) rmX11_isPiece
theorem mX11_isPiece : Mt yX11_isPiece cX11_isPiece 7 (some .boolean) 1 := ⟨k1071, k12, by decide +kernel⟩
theorem vX11_isPiece : MtV yX11_isPiece 11 := ⟨k1070, kp33, by decide, (RX11, TX11, 26), rfl, rfl⟩
def PX11_isPiece_67 (E : EV) (post : Option AV → AH → Prop) (J11 : AH → Option Nat → Int32 → Int32 → Int32 → Prop) (J67 : AH → Option Nat → Int32 → Int32 → Int32 → Int32 → Int32 → Int32 → Prop) (h : AH) (l0 : Option Nat) (l1 : Int32) (l2 : Int32) (l3 : Int32) (l4 : Int32) (l5 : Int32) (l6 : Int32) : Prop :=
  ((l3 + l2) ≤ l6 → J11 h l0 l1 l2 (l3 + (1 : Int32))) ∧ (¬ (l3 + l2) ≤ l6 → CV (sX11_yOf E) l0 11 [aI (500 : Int32), aI l1, aI l6] h (kI fun x1 h2 => CV (sX11_yOf E) l0 11 [aI (500 : Int32), aI l1, aI l3] h2 (kI fun x3 h4 => CV (sX11_xOf E) l0 11 [aI (500 : Int32), aI l1, aI l6] h4 (kI fun x5 h6 => CV (sX11_xOf E) l0 11 [aI (500 : Int32), aI l1, aI l3] h6 (kI fun x7 h8 => ((l5 * (x5 - x7)) < (l4 * (x1 - x3)) → J67 h8 l0 l1 l2 l3 l4 l5 (l6 + (1 : Int32))) ∧ (¬ (l5 * (x5 - x7)) < (l4 * (x1 - x3)) → post (some (aI (0 : Int32))) h8))))))
theorem bX11_isPiece_67 {E : EV} {X : AX} {post : Option AV → AH → Prop} (C : Cb E X cX11_isPiece RX11 7 rmX11_isPiece) (D : Cr E X (some .boolean) rmX11_isPiece "isPiece" post) {J11 : AH → Option Nat → Int32 → Int32 → Int32 → Prop} (g11 : ∀ (h : AH) (l0 : Option Nat) (l1 : Int32) (l2 : Int32) (l3 : Int32), J11 h l0 l1 l2 l3 → Go E X 7 0 0 11 [(0, aP l0), (1, aI l1), (2, aI l2), (3, aI l3)] [] h) {J67 : AH → Option Nat → Int32 → Int32 → Int32 → Int32 → Int32 → Int32 → Prop} (g67 : ∀ (h : AH) (l0 : Option Nat) (l1 : Int32) (l2 : Int32) (l3 : Int32) (l4 : Int32) (l5 : Int32) (l6 : Int32), J67 h l0 l1 l2 l3 l4 l5 l6 → Go E X 7 0 0 67 [(0, aP l0), (1, aI l1), (2, aI l2), (3, aI l3), (4, aI l4), (5, aI l5), (6, aI l6)] [] h) {h : AH} {l0 : Option Nat} {l1 : Int32} {l2 : Int32} {l3 : Int32} {l4 : Int32} {l5 : Int32} {l6 : Int32} (w : PX11_isPiece_67 E post J11 J67 h l0 l1 l2 l3 l4 l5 l6) : Go E X 7 0 0 67 [(0, aP l0), (1, aI l1), (2, aI l2), (3, aI l3), (4, aI l4), (5, aI l5), (6, aI l6)] [] h := by
  unfold PX11_isPiece_67 at w
  refine r_iload C dX11_isPiece_67 6 rfl ?_
  refine r_iload_n C dX11_isPiece_69 rfl 3 rfl ?_
  refine r_iload_n C dX11_isPiece_70 rfl 2 rfl ?_
  refine r_iadd C dX11_isPiece_71 ?_
  refine r_icmp_ge C dX11_isPiece_72 (tgt := 132) rfl (fun hc => ?_) (fun hc => ?_)
  · have w := w.1 hc
    refine r_iinc C dX11_isPiece_132 3 rfl (v := 1) rfl (by decide) rfl ?_
    refine r_goto C dX11_isPiece_135 (tgt := 11) rfl ?_
    exact r_sub [1, 2, 3, 0] rfl (g11 h l0 l1 l2 (l3 + (1 : Int32)) w)
  · have w := w.2 hc
    refine r_iload C dX11_isPiece_75 4 rfl ?_
    refine r_aload_n C dX11_isPiece_77 rfl 0 rfl ?_
    refine r_sipush (v := 500) C dX11_isPiece_78 rfl ?_
    refine r_iload_n C dX11_isPiece_81 rfl 1 rfl ?_
    refine r_iload C dX11_isPiece_82 6 rfl ?_
    refine r_cvI (rm' := rmX11_yOf) C mX11_yOf vX11_yOf k1080 [aI (500 : Int32), aI l1, aI l6] [aI l4] rfl rfl (Nat.le_of_ble_eq_true rfl) (by decide) ⟨Nat.zero_le _, Nat.zero_le _⟩ 0 0 rfl rfl dX11_isPiece_84 w (fun x1 h2 w => ?_)
    refine r_aload_n C dX11_isPiece_87 rfl 0 rfl ?_
    refine r_sipush (v := 500) C dX11_isPiece_88 rfl ?_
    refine r_iload_n C dX11_isPiece_91 rfl 1 rfl ?_
    refine r_iload_n C dX11_isPiece_92 rfl 3 rfl ?_
    refine r_cvI (rm' := rmX11_yOf) C mX11_yOf vX11_yOf k1080 [aI (500 : Int32), aI l1, aI l3] [aI x1, aI l4] rfl rfl (Nat.le_of_ble_eq_true rfl) (by decide) ⟨Nat.zero_le _, Nat.zero_le _⟩ 0 0 rfl rfl dX11_isPiece_93 w (fun x3 h4 w => ?_)
    refine r_isub C dX11_isPiece_96 ?_
    refine r_imul C dX11_isPiece_97 ?_
    refine r_iload C dX11_isPiece_98 5 rfl ?_
    refine r_aload_n C dX11_isPiece_100 rfl 0 rfl ?_
    refine r_sipush (v := 500) C dX11_isPiece_101 rfl ?_
    refine r_iload_n C dX11_isPiece_104 rfl 1 rfl ?_
    refine r_iload C dX11_isPiece_105 6 rfl ?_
    refine r_cvI (rm' := rmX11_xOf) C mX11_xOf vX11_xOf k1076 [aI (500 : Int32), aI l1, aI l6] [aI l5, aI (l4 * (x1 - x3))] rfl rfl (Nat.le_of_ble_eq_true rfl) (by decide) ⟨Nat.zero_le _, Nat.zero_le _⟩ 0 0 rfl rfl dX11_isPiece_107 w (fun x5 h6 w => ?_)
    refine r_aload_n C dX11_isPiece_110 rfl 0 rfl ?_
    refine r_sipush (v := 500) C dX11_isPiece_111 rfl ?_
    refine r_iload_n C dX11_isPiece_114 rfl 1 rfl ?_
    refine r_iload_n C dX11_isPiece_115 rfl 3 rfl ?_
    refine r_cvI (rm' := rmX11_xOf) C mX11_xOf vX11_xOf k1076 [aI (500 : Int32), aI l1, aI l3] [aI x5, aI l5, aI (l4 * (x1 - x3))] rfl rfl (Nat.le_of_ble_eq_true rfl) (by decide) ⟨Nat.zero_le _, Nat.zero_le _⟩ 0 0 rfl rfl dX11_isPiece_116 w (fun x7 h8 w => ?_)
    refine r_isub C dX11_isPiece_119 ?_
    refine r_imul C dX11_isPiece_120 ?_
    refine r_icmp_gt C dX11_isPiece_121 (tgt := 126) rfl (fun hc => ?_) (fun hc => ?_)
    · have w := w.1 hc
      refine r_iinc C dX11_isPiece_126 6 rfl (v := 1) rfl (by decide) rfl ?_
      refine r_goto C dX11_isPiece_129 (tgt := 67) rfl ?_
      exact r_sub [1, 2, 3, 4, 5, 6, 0] rfl (g67 h8 l0 l1 l2 l3 l4 l5 (l6 + (1 : Int32)) w)
    · have w := w.2 hc
      refine r_iconst (v := 0) C dX11_isPiece_124 rfl ?_
      exact r_zret C D rfl (Or.inl rfl) (Nat.zero_le _) (Nat.zero_le _) dX11_isPiece_125 w
theorem lpX11_isPiece_67 {E : EV} {X : AX} {post : Option AV → AH → Prop} (C : Cb E X cX11_isPiece RX11 7 rmX11_isPiece) (D : Cr E X (some .boolean) rmX11_isPiece "isPiece" post) {J11 : AH → Option Nat → Int32 → Int32 → Int32 → Prop} (g11 : ∀ (h : AH) (l0 : Option Nat) (l1 : Int32) (l2 : Int32) (l3 : Int32), J11 h l0 l1 l2 l3 → Go E X 7 0 0 11 [(0, aP l0), (1, aI l1), (2, aI l2), (3, aI l3)] [] h) (I : Nat → AH → Option Nat → Int32 → Int32 → Int32 → Int32 → Int32 → Int32 → Prop) (step : ∀ (z : Nat) (h : AH) (l0 : Option Nat) (l1 : Int32) (l2 : Int32) (l3 : Int32) (l4 : Int32) (l5 : Int32) (l6 : Int32), I z h l0 l1 l2 l3 l4 l5 l6 → PX11_isPiece_67 E post J11 (fun h l0 l1 l2 l3 l4 l5 l6 => ∃ z', z' < z ∧ I z' h l0 l1 l2 l3 l4 l5 l6) h l0 l1 l2 l3 l4 l5 l6) : ∀ (z : Nat) (h : AH) (l0 : Option Nat) (l1 : Int32) (l2 : Int32) (l3 : Int32) (l4 : Int32) (l5 : Int32) (l6 : Int32), I z h l0 l1 l2 l3 l4 l5 l6 → Go E X 7 0 0 67 [(0, aP l0), (1, aI l1), (2, aI l2), (3, aI l3), (4, aI l4), (5, aI l5), (6, aI l6)] [] h := by
  intro z
  induction z using Nat.strongRecOn with
  | _ z ih =>
    intro h l0 l1 l2 l3 l4 l5 l6 hI
    exact bX11_isPiece_67 C D g11 (fun h l0 l1 l2 l3 l4 l5 l6 hJ => by obtain ⟨z', hz, hi⟩ := hJ; exact ih z' hz h l0 l1 l2 l3 l4 l5 l6 hi) (step z h l0 l1 l2 l3 l4 l5 l6 hI)
def PX11_isPiece_11 (E : EV) (post : Option AV → AH → Prop) (J67 : AH → Option Nat → Int32 → Int32 → Int32 → Int32 → Int32 → Int32 → Prop) (h : AH) (l0 : Option Nat) (l1 : Int32) (l2 : Int32) (l3 : Int32) : Prop :=
  (l2 ≤ l3 → post (some (aI (1 : Int32))) h) ∧ (¬ l2 ≤ l3 → CV (sX11_xOf E) l0 11 [aI (500 : Int32), aI l1, aI (l3 + (1 : Int32))] h (kI fun x1 h2 => CV (sX11_xOf E) l0 11 [aI (500 : Int32), aI l1, aI l3] h2 (kI fun x3 h4 => ∀ v5, v5 = (x1 - x3) → CV (sX11_yOf E) l0 11 [aI (500 : Int32), aI l1, aI (l3 + (1 : Int32))] h4 (kI fun x6 h7 => CV (sX11_yOf E) l0 11 [aI (500 : Int32), aI l1, aI l3] h7 (kI fun x8 h9 => ∀ v10, v10 = (x6 - x8) → ∀ v11, v11 = (l3 + (2 : Int32)) → J67 h9 l0 l1 l2 l3 v5 v10 v11)))))
theorem bX11_isPiece_11 {E : EV} {X : AX} {post : Option AV → AH → Prop} (C : Cb E X cX11_isPiece RX11 7 rmX11_isPiece) (D : Cr E X (some .boolean) rmX11_isPiece "isPiece" post) {J67 : AH → Option Nat → Int32 → Int32 → Int32 → Int32 → Int32 → Int32 → Prop} (g67 : ∀ (h : AH) (l0 : Option Nat) (l1 : Int32) (l2 : Int32) (l3 : Int32) (l4 : Int32) (l5 : Int32) (l6 : Int32), J67 h l0 l1 l2 l3 l4 l5 l6 → Go E X 7 0 0 67 [(0, aP l0), (1, aI l1), (2, aI l2), (3, aI l3), (4, aI l4), (5, aI l5), (6, aI l6)] [] h) {h : AH} {l0 : Option Nat} {l1 : Int32} {l2 : Int32} {l3 : Int32} (w : PX11_isPiece_11 E post J67 h l0 l1 l2 l3) : Go E X 7 0 0 11 [(0, aP l0), (1, aI l1), (2, aI l2), (3, aI l3)] [] h := by
  unfold PX11_isPiece_11 at w
  refine r_iload_n C dX11_isPiece_11 rfl 3 rfl ?_
  refine r_iload_n C dX11_isPiece_12 rfl 2 rfl ?_
  refine r_icmp_ge C dX11_isPiece_13 (tgt := 138) rfl (fun hc => ?_) (fun hc => ?_)
  · have w := w.1 hc
    refine r_iconst (v := 1) C dX11_isPiece_138 rfl ?_
    exact r_zret C D rfl (Or.inr rfl) (Nat.zero_le _) (Nat.zero_le _) dX11_isPiece_139 w
  · have w := w.2 hc
    refine r_aload_n C dX11_isPiece_16 rfl 0 rfl ?_
    refine r_sipush (v := 500) C dX11_isPiece_17 rfl ?_
    refine r_iload_n C dX11_isPiece_20 rfl 1 rfl ?_
    refine r_iload_n C dX11_isPiece_21 rfl 3 rfl ?_
    refine r_iconst (v := 1) C dX11_isPiece_22 rfl ?_
    refine r_iadd C dX11_isPiece_23 ?_
    refine r_cvI (rm' := rmX11_xOf) C mX11_xOf vX11_xOf k1076 [aI (500 : Int32), aI l1, aI (l3 + (1 : Int32))] [] rfl rfl (Nat.le_of_ble_eq_true rfl) (by decide) ⟨Nat.zero_le _, Nat.zero_le _⟩ 0 0 rfl rfl dX11_isPiece_24 w (fun x1 h2 w => ?_)
    refine r_aload_n C dX11_isPiece_27 rfl 0 rfl ?_
    refine r_sipush (v := 500) C dX11_isPiece_28 rfl ?_
    refine r_iload_n C dX11_isPiece_31 rfl 1 rfl ?_
    refine r_iload_n C dX11_isPiece_32 rfl 3 rfl ?_
    refine r_cvI (rm' := rmX11_xOf) C mX11_xOf vX11_xOf k1076 [aI (500 : Int32), aI l1, aI l3] [aI x1] rfl rfl (Nat.le_of_ble_eq_true rfl) (by decide) ⟨Nat.zero_le _, Nat.zero_le _⟩ 0 0 rfl rfl dX11_isPiece_33 w (fun x3 h4 w => ?_)
    refine r_isub C dX11_isPiece_36 ?_
    refine r_istore C dX11_isPiece_37 (by decide) rfl ?_
    have w := w _ rfl
    skip
    refine r_aload_n C dX11_isPiece_39 rfl 1 rfl ?_
    refine r_sipush (v := 500) C dX11_isPiece_40 rfl ?_
    refine r_iload_n C dX11_isPiece_43 rfl 2 rfl ?_
    refine r_iload_n C dX11_isPiece_44 rfl 4 rfl ?_
    refine r_iconst (v := 1) C dX11_isPiece_45 rfl ?_
    refine r_iadd C dX11_isPiece_46 ?_
    refine r_cvI (rm' := rmX11_yOf) C mX11_yOf vX11_yOf k1080 [aI (500 : Int32), aI l1, aI (l3 + (1 : Int32))] [] rfl rfl (Nat.le_of_ble_eq_true rfl) (by decide) ⟨Nat.zero_le _, Nat.zero_le _⟩ 0 0 rfl rfl dX11_isPiece_47 w (fun x6 h7 w => ?_)
    refine r_aload_n C dX11_isPiece_50 rfl 1 rfl ?_
    refine r_sipush (v := 500) C dX11_isPiece_51 rfl ?_
    refine r_iload_n C dX11_isPiece_54 rfl 2 rfl ?_
    refine r_iload_n C dX11_isPiece_55 rfl 4 rfl ?_
    refine r_cvI (rm' := rmX11_yOf) C mX11_yOf vX11_yOf k1080 [aI (500 : Int32), aI l1, aI l3] [aI x6] rfl rfl (Nat.le_of_ble_eq_true rfl) (by decide) ⟨Nat.zero_le _, Nat.zero_le _⟩ 0 0 rfl rfl dX11_isPiece_56 w (fun x8 h9 w => ?_)
    refine r_isub C dX11_isPiece_59 ?_
    refine r_istore C dX11_isPiece_60 (by decide) rfl ?_
    have w := w _ rfl
    skip
    refine r_iload_n C dX11_isPiece_62 rfl 5 rfl ?_
    refine r_iconst (v := 2) C dX11_isPiece_63 rfl ?_
    refine r_iadd C dX11_isPiece_64 ?_
    refine r_istore C dX11_isPiece_65 (by decide) rfl ?_
    have w := w _ rfl
    skip
    exact r_sub [3, 4, 5, 6, 2, 1, 0] rfl (g67 h9 l0 l1 l2 l3 (x1 - x3) (x6 - x8) (l3 + (2 : Int32)) w)
def PX11_isPiece_0 (E : EV) (post : Option AV → AH → Prop) (J11 : AH → Option Nat → Int32 → Int32 → Int32 → Prop) (h : AH) (l0 : Option Nat) (l1 : Int32) : Prop :=
  CV (sX11_vertices E) l0 11 [aI (500 : Int32), aI l1] h (kI fun x1 h2 => J11 h2 l0 l1 x1 (0 : Int32))
theorem bX11_isPiece_0 {E : EV} {X : AX} {post : Option AV → AH → Prop} (C : Cb E X cX11_isPiece RX11 7 rmX11_isPiece) (D : Cr E X (some .boolean) rmX11_isPiece "isPiece" post) {J11 : AH → Option Nat → Int32 → Int32 → Int32 → Prop} (g11 : ∀ (h : AH) (l0 : Option Nat) (l1 : Int32) (l2 : Int32) (l3 : Int32), J11 h l0 l1 l2 l3 → Go E X 7 0 0 11 [(0, aP l0), (1, aI l1), (2, aI l2), (3, aI l3)] [] h) {h : AH} {l0 : Option Nat} {l1 : Int32} (w : PX11_isPiece_0 E post J11 h l0 l1) : Go E X 7 0 0 0 [(0, aP l0), (1, aI l1)] [] h := by
  unfold PX11_isPiece_0 at w
  refine r_aload_n C dX11_isPiece_0 rfl 0 rfl ?_
  refine r_sipush (v := 500) C dX11_isPiece_1 rfl ?_
  refine r_iload_n C dX11_isPiece_4 rfl 1 rfl ?_
  refine r_cvI (rm' := rmX11_vertices) C mX11_vertices vX11_vertices k1072 [aI (500 : Int32), aI l1] [] rfl rfl (Nat.le_of_ble_eq_true rfl) (by decide) ⟨Nat.zero_le _, Nat.zero_le _⟩ 0 0 rfl rfl dX11_isPiece_5 w (fun x1 h2 w => ?_)
  refine r_istore_n C dX11_isPiece_8 rfl (by decide) rfl ?_
  refine r_iconst (v := 0) C dX11_isPiece_9 rfl ?_
  refine r_istore_n C dX11_isPiece_10 rfl (by decide) rfl ?_
  exact r_sub [2, 3, 1, 0] rfl (g11 h2 l0 l1 x1 (0 : Int32) w)
theorem eX11_isPiece {E : EV} {post : Option AV → AH → Prop} {h : AH} {l0 : Option Nat} {l1 : Int32} {J11 : AH → Option Nat → Int32 → Int32 → Int32 → Prop} (g11 : ∀ X : AX, Cb E X cX11_isPiece RX11 7 rmX11_isPiece → Cr E X (some .boolean) rmX11_isPiece "isPiece" post → ∀ (h : AH) (l0 : Option Nat) (l1 : Int32) (l2 : Int32) (l3 : Int32), J11 h l0 l1 l2 l3 → Go E X 7 0 0 11 [(0, aP l0), (1, aI l1), (2, aI l2), (3, aI l3)] [] h) (w : PX11_isPiece_0 E post J11 h l0 l1) : sX11_isPiece E [aP l0, aI l1] h post := Spec.of RX11 rfl rfl (Nat.le_of_ble_eq_true rfl) fun X C D => bX11_isPiece_0 C D (g11 X C D) w
theorem dX11_itemAt_0 : decode cX11_itemAt 0 = .ok (.iload_n 1, 1) := by decide +kernel
theorem dX11_itemAt_1 : decode cX11_itemAt 1 = .ok (.iload_n 2, 1) := by decide +kernel
theorem dX11_itemAt_2 : decode cX11_itemAt 2 = .ok (.invokestatic 236, 3) := by decide +kernel
theorem dX11_itemAt_5 : decode cX11_itemAt 5 = .ok (.ifCond .ne 6, 3) := by decide +kernel
theorem dX11_itemAt_8 : decode cX11_itemAt 8 = .ok (.ldc 145, 2) := by decide +kernel
theorem dX11_itemAt_10 : decode cX11_itemAt 10 = .ok (.ireturn, 1) := by decide +kernel
theorem dX11_itemAt_11 : decode cX11_itemAt 11 = .ok (.iconst 0, 1) := by decide +kernel
theorem dX11_itemAt_12 : decode cX11_itemAt 12 = .ok (.istore_n 3, 1) := by decide +kernel
theorem dX11_itemAt_13 : decode cX11_itemAt 13 = .ok (.iload_n 3, 1) := by decide +kernel
theorem dX11_itemAt_14 : decode cX11_itemAt 14 = .ok (.aload_n 0, 1) := by decide +kernel
theorem dX11_itemAt_15 : decode cX11_itemAt 15 = .ok (.getfield 7, 3) := by decide +kernel
theorem dX11_itemAt_18 : decode cX11_itemAt 18 = .ok (.iconst 3, 1) := by decide +kernel
theorem dX11_itemAt_19 : decode cX11_itemAt 19 = .ok (.iaload, 1) := by decide +kernel
theorem dX11_itemAt_20 : decode cX11_itemAt 20 = .ok (.if_icmp .ge 60, 3) := by decide +kernel
theorem dX11_itemAt_23 : decode cX11_itemAt 23 = .ok (.iconst 0, 1) := by decide +kernel
theorem dX11_itemAt_24 : decode cX11_itemAt 24 = .ok (.istore 4, 2) := by decide +kernel
theorem dX11_itemAt_26 : decode cX11_itemAt 26 = .ok (.iload 4, 2) := by decide +kernel
theorem dX11_itemAt_28 : decode cX11_itemAt 28 = .ok (.aload_n 0, 1) := by decide +kernel
theorem dX11_itemAt_29 : decode cX11_itemAt 29 = .ok (.iload_n 3, 1) := by decide +kernel
theorem dX11_itemAt_30 : decode cX11_itemAt 30 = .ok (.invokestatic 257, 3) := by decide +kernel
theorem dX11_itemAt_33 : decode cX11_itemAt 33 = .ok (.invokevirtual 66, 3) := by decide +kernel
theorem dX11_itemAt_36 : decode cX11_itemAt 36 = .ok (.if_icmp .ge 38, 3) := by decide +kernel
theorem dX11_itemAt_39 : decode cX11_itemAt 39 = .ok (.aload_n 0, 1) := by decide +kernel
theorem dX11_itemAt_40 : decode cX11_itemAt 40 = .ok (.iload_n 3, 1) := by decide +kernel
theorem dX11_itemAt_41 : decode cX11_itemAt 41 = .ok (.invokestatic 257, 3) := by decide +kernel
theorem dX11_itemAt_44 : decode cX11_itemAt 44 = .ok (.iload 4, 2) := by decide +kernel
theorem dX11_itemAt_46 : decode cX11_itemAt 46 = .ok (.iload_n 1, 1) := by decide +kernel
theorem dX11_itemAt_47 : decode cX11_itemAt 47 = .ok (.aload_n 0, 1) := by decide +kernel
theorem dX11_itemAt_48 : decode cX11_itemAt 48 = .ok (.iload_n 3, 1) := by decide +kernel
theorem dX11_itemAt_49 : decode cX11_itemAt 49 = .ok (.invokevirtual 260, 3) := by decide +kernel
theorem dX11_itemAt_52 : decode cX11_itemAt 52 = .ok (.isub, 1) := by decide +kernel
theorem dX11_itemAt_53 : decode cX11_itemAt 53 = .ok (.iload_n 2, 1) := by decide +kernel
theorem dX11_itemAt_54 : decode cX11_itemAt 54 = .ok (.aload_n 0, 1) := by decide +kernel
theorem dX11_itemAt_55 : decode cX11_itemAt 55 = .ok (.iload_n 3, 1) := by decide +kernel
theorem dX11_itemAt_56 : decode cX11_itemAt 56 = .ok (.invokevirtual 263, 3) := by decide +kernel
theorem dX11_itemAt_59 : decode cX11_itemAt 59 = .ok (.isub, 1) := by decide +kernel
theorem dX11_itemAt_60 : decode cX11_itemAt 60 = .ok (.invokevirtual 310, 3) := by decide +kernel
theorem dX11_itemAt_63 : decode cX11_itemAt 63 = .ok (.ifCond .eq 5, 3) := by decide +kernel
theorem dX11_itemAt_66 : decode cX11_itemAt 66 = .ok (.iload_n 3, 1) := by decide +kernel
theorem dX11_itemAt_67 : decode cX11_itemAt 67 = .ok (.ireturn, 1) := by decide +kernel
theorem dX11_itemAt_68 : decode cX11_itemAt 68 = .ok (.iinc 4 1, 3) := by decide +kernel
theorem dX11_itemAt_71 : decode cX11_itemAt 71 = .ok (.goto (-45), 3) := by decide +kernel
theorem dX11_itemAt_74 : decode cX11_itemAt 74 = .ok (.iinc 3 1, 3) := by decide +kernel
theorem dX11_itemAt_77 : decode cX11_itemAt 77 = .ok (.goto (-64), 3) := by decide +kernel
theorem dX11_itemAt_80 : decode cX11_itemAt 80 = .ok (.ldc 226, 2) := by decide +kernel
theorem dX11_itemAt_82 : decode cX11_itemAt 82 = .ok (.ireturn, 1) := by decide +kernel
abbrev rmX11_itemAt : Room := { frames := 2, cells := 0, slots := 0, locals := 80 }
abbrev sX11_itemAt (E : EV) : List AV → AH → (Option AV → AH → Prop) → Prop := Spec E yX11_itemAt cX11_itemAt 5 (some .int) rmX11_itemAt
theorem mX11_itemAt : Mt yX11_itemAt cX11_itemAt 5 (some .int) 2 := ⟨k1396, k12, by decide +kernel⟩
theorem vX11_itemAt : MtV yX11_itemAt 11 := ⟨k1394, k1395, by decide, (RX11, TX11, 26), rfl, rfl⟩
def PX11_itemAt_26 (E : EV) (post : Option AV → AH → Prop) (J13 : AH → Option Nat → Int32 → Int32 → Int32 → Prop) (J26 : AH → Option Nat → Int32 → Int32 → Int32 → Int32 → Prop) (h : AH) (l0 : Option Nat) (l1 : Int32) (l2 : Int32) (l3 : Int32) (l4 : Int32) : Prop :=
  CS (sX11_itemShape E) [aI l3] h (kI fun x1 h2 => CV (sX11_pieces E) l0 11 [aI x1] h2 (kI fun x3 h4 => (x3 ≤ l4 → J13 h4 l0 l1 l2 (l3 + (1 : Int32))) ∧ (¬ x3 ≤ l4 → CS (sX11_itemShape E) [aI l3] h4 (kI fun x5 h6 => CV (sX11_itemX E) l0 11 [aI l3] h6 (kI fun x7 h8 => CV (sX11_itemY E) l0 11 [aI l3] h8 (kI fun x9 h10 => CV (sX11_isIn E) l0 11 [aI x5, aI l4, aI (l1 - x7), aI (l2 - x9)] h10 (kI fun x11 h12 => (x11 = 0 → J26 h12 l0 l1 l2 l3 (l4 + (1 : Int32))) ∧ (¬ x11 = 0 → post (some (aI l3)) h12))))))))
theorem bX11_itemAt_26 {E : EV} {X : AX} {post : Option AV → AH → Prop} (C : Cb E X cX11_itemAt RX11 5 rmX11_itemAt) (D : Cr E X (some .int) rmX11_itemAt "itemAt" post) {J13 : AH → Option Nat → Int32 → Int32 → Int32 → Prop} (g13 : ∀ (h : AH) (l0 : Option Nat) (l1 : Int32) (l2 : Int32) (l3 : Int32), J13 h l0 l1 l2 l3 → Go E X 5 0 0 13 [(0, aP l0), (1, aI l1), (2, aI l2), (3, aI l3)] [] h) {J26 : AH → Option Nat → Int32 → Int32 → Int32 → Int32 → Prop} (g26 : ∀ (h : AH) (l0 : Option Nat) (l1 : Int32) (l2 : Int32) (l3 : Int32) (l4 : Int32), J26 h l0 l1 l2 l3 l4 → Go E X 5 0 0 26 [(0, aP l0), (1, aI l1), (2, aI l2), (3, aI l3), (4, aI l4)] [] h) {h : AH} {l0 : Option Nat} {l1 : Int32} {l2 : Int32} {l3 : Int32} {l4 : Int32} (w : PX11_itemAt_26 E post J13 J26 h l0 l1 l2 l3 l4) : Go E X 5 0 0 26 [(0, aP l0), (1, aI l1), (2, aI l2), (3, aI l3), (4, aI l4)] [] h := by
  unfold PX11_itemAt_26 at w
  refine r_iload C dX11_itemAt_26 4 rfl ?_
  refine r_aload_n C dX11_itemAt_28 rfl 0 rfl ?_
  refine r_iload_n C dX11_itemAt_29 rfl 3 rfl ?_
  refine r_csI (rm' := rmX11_itemShape) C mX11_itemShape vX11_itemShape k1281 [aI l3] [aP l0, aI l4] rfl rfl (Nat.le_of_ble_eq_true rfl) (by decide) ⟨Nat.zero_le _, Nat.zero_le _⟩ 0 0 rfl rfl dX11_itemAt_30 w (fun x1 h2 w => ?_)
  refine r_cvI (rm' := rmX11_pieces) C mX11_pieces vX11_pieces k1115 [aI x1] [aI l4] rfl rfl (Nat.le_of_ble_eq_true rfl) (by decide) ⟨Nat.zero_le _, Nat.zero_le _⟩ 0 0 rfl rfl dX11_itemAt_33 w (fun x3 h4 w => ?_)
  refine r_icmp_ge C dX11_itemAt_36 (tgt := 74) rfl (fun hc => ?_) (fun hc => ?_)
  · have w := w.1 hc
    refine r_iinc C dX11_itemAt_74 3 rfl (v := 1) rfl (by decide) rfl ?_
    refine r_goto C dX11_itemAt_77 (tgt := 13) rfl ?_
    exact r_sub [1, 2, 3, 0] rfl (g13 h4 l0 l1 l2 (l3 + (1 : Int32)) w)
  · have w := w.2 hc
    refine r_aload_n C dX11_itemAt_39 rfl 0 rfl ?_
    refine r_iload_n C dX11_itemAt_40 rfl 3 rfl ?_
    refine r_csI (rm' := rmX11_itemShape) C mX11_itemShape vX11_itemShape k1281 [aI l3] [aP l0] rfl rfl (Nat.le_of_ble_eq_true rfl) (by decide) ⟨Nat.zero_le _, Nat.zero_le _⟩ 0 0 rfl rfl dX11_itemAt_41 w (fun x5 h6 w => ?_)
    refine r_iload C dX11_itemAt_44 4 rfl ?_
    refine r_iload_n C dX11_itemAt_46 rfl 1 rfl ?_
    refine r_aload_n C dX11_itemAt_47 rfl 0 rfl ?_
    refine r_iload_n C dX11_itemAt_48 rfl 3 rfl ?_
    refine r_cvI (rm' := rmX11_itemX) C mX11_itemX vX11_itemX k1284 [aI l3] [aI l1, aI l4, aI x5, aP l0] rfl rfl (Nat.le_of_ble_eq_true rfl) (by decide) ⟨Nat.zero_le _, Nat.zero_le _⟩ 0 0 rfl rfl dX11_itemAt_49 w (fun x7 h8 w => ?_)
    refine r_isub C dX11_itemAt_52 ?_
    refine r_iload_n C dX11_itemAt_53 rfl 2 rfl ?_
    refine r_aload_n C dX11_itemAt_54 rfl 0 rfl ?_
    refine r_iload_n C dX11_itemAt_55 rfl 3 rfl ?_
    refine r_cvI (rm' := rmX11_itemY) C mX11_itemY vX11_itemY k1288 [aI l3] [aI l2, aI (l1 - x7), aI l4, aI x5, aP l0] rfl rfl (Nat.le_of_ble_eq_true rfl) (by decide) ⟨Nat.zero_le _, Nat.zero_le _⟩ 0 0 rfl rfl dX11_itemAt_56 w (fun x9 h10 w => ?_)
    refine r_isub C dX11_itemAt_59 ?_
    refine r_cvI (rm' := rmX11_isIn) C mX11_isIn vX11_isIn k1397 [aI x5, aI l4, aI (l1 - x7), aI (l2 - x9)] [] rfl rfl (Nat.le_of_ble_eq_true rfl) (by decide) ⟨Nat.zero_le _, Nat.zero_le _⟩ 0 0 rfl rfl dX11_itemAt_60 w (fun x11 h12 w => ?_)
    refine r_if_eq C dX11_itemAt_63 (tgt := 68) rfl (fun hc => ?_) (fun hc => ?_)
    · have w := w.1 hc
      refine r_iinc C dX11_itemAt_68 4 rfl (v := 1) rfl (by decide) rfl ?_
      refine r_goto C dX11_itemAt_71 (tgt := 26) rfl ?_
      exact r_sub [1, 2, 3, 4, 0] rfl (g26 h12 l0 l1 l2 l3 (l4 + (1 : Int32)) w)
    · have w := w.2 hc
      refine r_iload_n C dX11_itemAt_66 rfl 3 rfl ?_
      exact r_iret C D rfl (Nat.zero_le _) (Nat.zero_le _) dX11_itemAt_67 w
theorem lpX11_itemAt_26 {E : EV} {X : AX} {post : Option AV → AH → Prop} (C : Cb E X cX11_itemAt RX11 5 rmX11_itemAt) (D : Cr E X (some .int) rmX11_itemAt "itemAt" post) {J13 : AH → Option Nat → Int32 → Int32 → Int32 → Prop} (g13 : ∀ (h : AH) (l0 : Option Nat) (l1 : Int32) (l2 : Int32) (l3 : Int32), J13 h l0 l1 l2 l3 → Go E X 5 0 0 13 [(0, aP l0), (1, aI l1), (2, aI l2), (3, aI l3)] [] h) (I : Nat → AH → Option Nat → Int32 → Int32 → Int32 → Int32 → Prop) (step : ∀ (z : Nat) (h : AH) (l0 : Option Nat) (l1 : Int32) (l2 : Int32) (l3 : Int32) (l4 : Int32), I z h l0 l1 l2 l3 l4 → PX11_itemAt_26 E post J13 (fun h l0 l1 l2 l3 l4 => ∃ z', z' < z ∧ I z' h l0 l1 l2 l3 l4) h l0 l1 l2 l3 l4) : ∀ (z : Nat) (h : AH) (l0 : Option Nat) (l1 : Int32) (l2 : Int32) (l3 : Int32) (l4 : Int32), I z h l0 l1 l2 l3 l4 → Go E X 5 0 0 26 [(0, aP l0), (1, aI l1), (2, aI l2), (3, aI l3), (4, aI l4)] [] h := by
  intro z
  induction z using Nat.strongRecOn with
  | _ z ih =>
    intro h l0 l1 l2 l3 l4 hI
    exact bX11_itemAt_26 C D g13 (fun h l0 l1 l2 l3 l4 hJ => by obtain ⟨z', hz, hi⟩ := hJ; exact ih z' hz h l0 l1 l2 l3 l4 hi) (step z h l0 l1 l2 l3 l4 hI)
def PX11_itemAt_13 (E : EV) (post : Option AV → AH → Prop) (J26 : AH → Option Nat → Int32 → Int32 → Int32 → Int32 → Prop) (h : AH) (l0 : Option Nat) (l1 : Int32) (l2 : Int32) (l3 : Int32) : Prop :=
  rdP h l0 11 0 fun x1 => aldI h x1 0 (3 : Int32) fun x2 => (x2 ≤ l3 → post (some (aI (-1000009 : Int32))) h) ∧ (¬ x2 ≤ l3 → J26 h l0 l1 l2 l3 (0 : Int32))
theorem bX11_itemAt_13 {E : EV} {X : AX} {post : Option AV → AH → Prop} (C : Cb E X cX11_itemAt RX11 5 rmX11_itemAt) (D : Cr E X (some .int) rmX11_itemAt "itemAt" post) {J26 : AH → Option Nat → Int32 → Int32 → Int32 → Int32 → Prop} (g26 : ∀ (h : AH) (l0 : Option Nat) (l1 : Int32) (l2 : Int32) (l3 : Int32) (l4 : Int32), J26 h l0 l1 l2 l3 l4 → Go E X 5 0 0 26 [(0, aP l0), (1, aI l1), (2, aI l2), (3, aI l3), (4, aI l4)] [] h) {h : AH} {l0 : Option Nat} {l1 : Int32} {l2 : Int32} {l3 : Int32} (w : PX11_itemAt_13 E post J26 h l0 l1 l2 l3) : Go E X 5 0 0 13 [(0, aP l0), (1, aI l1), (2, aI l2), (3, aI l3)] [] h := by
  unfold PX11_itemAt_13 at w
  refine r_iload_n C dX11_itemAt_13 rfl 3 rfl ?_
  refine r_aload_n C dX11_itemAt_14 rfl 0 rfl ?_
  refine r_getP C fcX11 (f := 0) (by decide) rfl k943 dX11_itemAt_15 (w.mono fun x1 w => ?_)
  refine r_iconst (v := 3) C dX11_itemAt_18 rfl ?_
  refine r_iald C dX11_itemAt_19 (w.mono fun x2 w => ?_)
  refine r_icmp_ge C dX11_itemAt_20 (tgt := 80) rfl (fun hc => ?_) (fun hc => ?_)
  · have w := w.1 hc
    refine r_ldc (v := -1000009) C dX11_itemAt_80 k1170 ?_
    exact r_iret C D rfl (Nat.zero_le _) (Nat.zero_le _) dX11_itemAt_82 w
  · have w := w.2 hc
    refine r_iconst (v := 0) C dX11_itemAt_23 rfl ?_
    refine r_istore C dX11_itemAt_24 (by decide) rfl ?_
    exact r_sub [1, 2, 3, 4, 0] rfl (g26 h l0 l1 l2 l3 (0 : Int32) w)
def PX11_itemAt_0 (E : EV) (post : Option AV → AH → Prop) (J13 : AH → Option Nat → Int32 → Int32 → Int32 → Prop) (h : AH) (l0 : Option Nat) (l1 : Int32) (l2 : Int32) : Prop :=
  CS (sX11_isPlace E) [aI l1, aI l2] h (kI fun x1 h2 => (¬ x1 = 0 → J13 h2 l0 l1 l2 (0 : Int32)) ∧ (x1 = 0 → post (some (aI (-1000001 : Int32))) h2))
theorem bX11_itemAt_0 {E : EV} {X : AX} {post : Option AV → AH → Prop} (C : Cb E X cX11_itemAt RX11 5 rmX11_itemAt) (D : Cr E X (some .int) rmX11_itemAt "itemAt" post) {J13 : AH → Option Nat → Int32 → Int32 → Int32 → Prop} (g13 : ∀ (h : AH) (l0 : Option Nat) (l1 : Int32) (l2 : Int32) (l3 : Int32), J13 h l0 l1 l2 l3 → Go E X 5 0 0 13 [(0, aP l0), (1, aI l1), (2, aI l2), (3, aI l3)] [] h) {h : AH} {l0 : Option Nat} {l1 : Int32} {l2 : Int32} (w : PX11_itemAt_0 E post J13 h l0 l1 l2) : Go E X 5 0 0 0 [(0, aP l0), (1, aI l1), (2, aI l2)] [] h := by
  unfold PX11_itemAt_0 at w
  refine r_iload_n C dX11_itemAt_0 rfl 1 rfl ?_
  refine r_iload_n C dX11_itemAt_1 rfl 2 rfl ?_
  refine r_csI (rm' := rmX11_isPlace) C mX11_isPlace vX11_isPlace k1214 [aI l1, aI l2] [] rfl rfl (Nat.le_of_ble_eq_true rfl) (by decide) ⟨Nat.zero_le _, Nat.zero_le _⟩ 0 0 rfl rfl dX11_itemAt_2 w (fun x1 h2 w => ?_)
  refine r_if_ne C dX11_itemAt_5 (tgt := 11) rfl (fun hc => ?_) (fun hc => ?_)
  · have w := w.1 hc
    refine r_iconst (v := 0) C dX11_itemAt_11 rfl ?_
    refine r_istore_n C dX11_itemAt_12 rfl (by decide) rfl ?_
    exact r_sub [1, 2, 3, 0] rfl (g13 h2 l0 l1 l2 (0 : Int32) w)
  · have w := w.2 hc
    refine r_ldc (v := -1000001) C dX11_itemAt_8 k1039 ?_
    exact r_iret C D rfl (Nat.zero_le _) (Nat.zero_le _) dX11_itemAt_10 w
theorem eX11_itemAt {E : EV} {post : Option AV → AH → Prop} {h : AH} {l0 : Option Nat} {l1 : Int32} {l2 : Int32} {J13 : AH → Option Nat → Int32 → Int32 → Int32 → Prop} (g13 : ∀ X : AX, Cb E X cX11_itemAt RX11 5 rmX11_itemAt → Cr E X (some .int) rmX11_itemAt "itemAt" post → ∀ (h : AH) (l0 : Option Nat) (l1 : Int32) (l2 : Int32) (l3 : Int32), J13 h l0 l1 l2 l3 → Go E X 5 0 0 13 [(0, aP l0), (1, aI l1), (2, aI l2), (3, aI l3)] [] h) (w : PX11_itemAt_0 E post J13 h l0 l1 l2) : sX11_itemAt E [aP l0, aI l1, aI l2] h post := Spec.of RX11 rfl rfl (Nat.le_of_ble_eq_true rfl) fun X C D => bX11_itemAt_0 C D (g13 X C D) w
theorem dX11_itemCount_0 : decode cX11_itemCount 0 = .ok (.aload_n 0, 1) := by decide +kernel
theorem dX11_itemCount_1 : decode cX11_itemCount 1 = .ok (.getfield 7, 3) := by decide +kernel
theorem dX11_itemCount_4 : decode cX11_itemCount 4 = .ok (.iconst 3, 1) := by decide +kernel
theorem dX11_itemCount_5 : decode cX11_itemCount 5 = .ok (.iaload, 1) := by decide +kernel
theorem dX11_itemCount_6 : decode cX11_itemCount 6 = .ok (.ireturn, 1) := by decide +kernel
abbrev rmX11_itemCount : Room := { frames := 0, cells := 0, slots := 0, locals := 0 }
abbrev sX11_itemCount (E : EV) : List AV → AH → (Option AV → AH → Prop) → Prop := Spec E yX11_itemCount cX11_itemCount 1 (some .int) rmX11_itemCount
theorem mX11_itemCount : Mt yX11_itemCount cX11_itemCount 1 (some .int) 0 := ⟨k1372, k12, by decide +kernel⟩
theorem vX11_itemCount : MtV yX11_itemCount 11 := ⟨k1370, k1371, by decide, (RX11, TX11, 26), rfl, rfl⟩
def PX11_itemCount_0 (E : EV) (post : Option AV → AH → Prop) (h : AH) (l0 : Option Nat) : Prop :=
  rdP h l0 11 0 fun x1 => aldI h x1 0 (3 : Int32) fun x2 => post (some (aI x2)) h
theorem bX11_itemCount_0 {E : EV} {X : AX} {post : Option AV → AH → Prop} (C : Cb E X cX11_itemCount RX11 1 rmX11_itemCount) (D : Cr E X (some .int) rmX11_itemCount "itemCount" post) {h : AH} {l0 : Option Nat} (w : PX11_itemCount_0 E post h l0) : Go E X 1 0 0 0 [(0, aP l0)] [] h := by
  unfold PX11_itemCount_0 at w
  refine r_aload_n C dX11_itemCount_0 rfl 0 rfl ?_
  refine r_getP C fcX11 (f := 0) (by decide) rfl k943 dX11_itemCount_1 (w.mono fun x1 w => ?_)
  refine r_iconst (v := 3) C dX11_itemCount_4 rfl ?_
  refine r_iald C dX11_itemCount_5 (w.mono fun x2 w => ?_)
  exact r_iret C D rfl (Nat.zero_le _) (Nat.zero_le _) dX11_itemCount_6 w
theorem eX11_itemCount {E : EV} {post : Option AV → AH → Prop} {h : AH} {l0 : Option Nat} (w : PX11_itemCount_0 E post h l0) : sX11_itemCount E [aP l0] h post := Spec.of RX11 rfl rfl (Nat.le_of_ble_eq_true rfl) fun X C D => bX11_itemCount_0 C D w
theorem dX11_part_0 : decode cX11_part 0 = .ok (.lload_n 0, 1) := by decide +kernel
theorem dX11_part_1 : decode cX11_part 1 = .ok (.lload_n 2, 1) := by decide +kernel
theorem dX11_part_2 : decode cX11_part 2 = .ok (.invokestatic 122, 3) := by decide +kernel
theorem dX11_part_5 : decode cX11_part 5 = .ok (.lstore 5, 2) := by decide +kernel
theorem dX11_part_7 : decode cX11_part 7 = .ok (.iload 4, 2) := by decide +kernel
theorem dX11_part_9 : decode cX11_part 9 = .ok (.ifCond .ne 10, 3) := by decide +kernel
theorem dX11_part_12 : decode cX11_part 12 = .ok (.lload_n 0, 1) := by decide +kernel
theorem dX11_part_13 : decode cX11_part 13 = .ok (.lload 5, 2) := by decide +kernel
theorem dX11_part_15 : decode cX11_part 15 = .ok (.ldiv, 1) := by decide +kernel
theorem dX11_part_16 : decode cX11_part 16 = .ok (.goto 7, 3) := by decide +kernel
theorem dX11_part_19 : decode cX11_part 19 = .ok (.lload_n 2, 1) := by decide +kernel
theorem dX11_part_20 : decode cX11_part 20 = .ok (.lload 5, 2) := by decide +kernel
theorem dX11_part_22 : decode cX11_part 22 = .ok (.ldiv, 1) := by decide +kernel
theorem dX11_part_23 : decode cX11_part 23 = .ok (.l2i, 1) := by decide +kernel
theorem dX11_part_24 : decode cX11_part 24 = .ok (.ireturn, 1) := by decide +kernel
abbrev rmX11_part : Room := { frames := 1, cells := 0, slots := 0, locals := 40 }
abbrev sX11_part (E : EV) : List AV → AH → (Option AV → AH → Prop) → Prop := Spec E yX11_part cX11_part 7 (some .int) rmX11_part
theorem mX11_part : Mt yX11_part cX11_part 7 (some .int) 3 := ⟨k1259, k12, by decide +kernel⟩
theorem vX11_part : MtS yX11_part := k1258
def PX11_part_0 (E : EV) (post : Option AV → AH → Prop) (h : AH) (l0 : Int64) (l2 : Int64) (l4 : Int32) : Prop :=
  CS (sX11_common E) [aJ l0, aJ l2] h (kJ fun x1 h2 => (¬ l4 = 0 → ¬ x1 = 0 ∧ (post (some (aI ((l2 / x1).toInt32))) h2)) ∧ (l4 = 0 → ¬ x1 = 0 ∧ (post (some (aI ((l0 / x1).toInt32))) h2)))
theorem bX11_part_0 {E : EV} {X : AX} {post : Option AV → AH → Prop} (C : Cb E X cX11_part RX11 7 rmX11_part) (D : Cr E X (some .int) rmX11_part "part" post) {h : AH} {l0 : Int64} {l2 : Int64} {l4 : Int32} (w : PX11_part_0 E post h l0 l2 l4) : Go E X 7 0 0 0 [(0, aJ l0), (2, aJ l2), (4, aI l4)] [] h := by
  unfold PX11_part_0 at w
  refine r_lload_n C dX11_part_0 rfl 0 rfl ?_
  refine r_lload_n C dX11_part_1 rfl 1 rfl ?_
  refine r_csJ (rm' := rmX11_common) C mX11_common vX11_common k1260 [aJ l0, aJ l2] [] rfl rfl (Nat.le_of_ble_eq_true rfl) (by decide) ⟨Nat.zero_le _, Nat.zero_le _⟩ 0 0 rfl rfl dX11_part_2 w (fun x1 h2 w => ?_)
  refine r_lstore C dX11_part_5 (by decide) rfl ?_
  refine r_iload C dX11_part_7 3 rfl ?_
  refine r_if_ne C dX11_part_9 (tgt := 19) rfl (fun hc => ?_) (fun hc => ?_)
  · have w := w.1 hc
    refine r_lload_n C dX11_part_19 rfl 2 rfl ?_
    refine r_lload C dX11_part_20 0 rfl ?_
    refine r_ldiv C dX11_part_22 w.1 ?_
    have w := w.2
    refine r_l2i C dX11_part_23 ?_
    exact r_iret C D rfl (Nat.zero_le _) (Nat.zero_le _) dX11_part_24 w
  · have w := w.2 hc
    refine r_lload_n C dX11_part_12 rfl 1 rfl ?_
    refine r_lload C dX11_part_13 0 rfl ?_
    refine r_ldiv C dX11_part_15 w.1 ?_
    have w := w.2
    refine r_goto C dX11_part_16 (tgt := 23) rfl ?_
    refine r_l2i C dX11_part_23 ?_
    exact r_iret C D rfl (Nat.zero_le _) (Nat.zero_le _) dX11_part_24 w
theorem eX11_part {E : EV} {post : Option AV → AH → Prop} {h : AH} {l0 : Int64} {l2 : Int64} {l4 : Int32} (w : PX11_part_0 E post h l0 l2 l4) : sX11_part E [aJ l0, aJ l2, aI l4] h post := Spec.of RX11 rfl rfl (Nat.le_of_ble_eq_true rfl) fun X C D => bX11_part_0 C D w
theorem dX11_itemGap_0 : decode cX11_itemGap 0 = .ok (.aload_n 0, 1) := by decide +kernel
theorem dX11_itemGap_1 : decode cX11_itemGap 1 = .ok (.iload_n 1, 1) := by decide +kernel
theorem dX11_itemGap_2 : decode cX11_itemGap 2 = .ok (.invokevirtual 298, 3) := by decide +kernel
theorem dX11_itemGap_5 : decode cX11_itemGap 5 = .ok (.ifCond .eq 25, 3) := by decide +kernel
theorem dX11_itemGap_8 : decode cX11_itemGap 8 = .ok (.aload_n 0, 1) := by decide +kernel
theorem dX11_itemGap_9 : decode cX11_itemGap 9 = .ok (.iload_n 2, 1) := by decide +kernel
theorem dX11_itemGap_10 : decode cX11_itemGap 10 = .ok (.invokevirtual 298, 3) := by decide +kernel
theorem dX11_itemGap_13 : decode cX11_itemGap 13 = .ok (.ifCond .eq 17, 3) := by decide +kernel
theorem dX11_itemGap_16 : decode cX11_itemGap 16 = .ok (.iload_n 1, 1) := by decide +kernel
theorem dX11_itemGap_17 : decode cX11_itemGap 17 = .ok (.iload_n 2, 1) := by decide +kernel
theorem dX11_itemGap_18 : decode cX11_itemGap 18 = .ok (.if_icmp .eq 12, 3) := by decide +kernel
theorem dX11_itemGap_21 : decode cX11_itemGap 21 = .ok (.iload_n 3, 1) := by decide +kernel
theorem dX11_itemGap_22 : decode cX11_itemGap 22 = .ok (.iconst 0, 1) := by decide +kernel
theorem dX11_itemGap_23 : decode cX11_itemGap 23 = .ok (.iconst 1, 1) := by decide +kernel
theorem dX11_itemGap_24 : decode cX11_itemGap 24 = .ok (.invokestatic 46, 3) := by decide +kernel
theorem dX11_itemGap_27 : decode cX11_itemGap 27 = .ok (.ifCond .ne 6, 3) := by decide +kernel
theorem dX11_itemGap_30 : decode cX11_itemGap 30 = .ok (.ldc 145, 2) := by decide +kernel
theorem dX11_itemGap_32 : decode cX11_itemGap 32 = .ok (.ireturn, 1) := by decide +kernel
theorem dX11_itemGap_33 : decode cX11_itemGap 33 = .ok (.aload_n 0, 1) := by decide +kernel
theorem dX11_itemGap_34 : decode cX11_itemGap 34 = .ok (.iload_n 1, 1) := by decide +kernel
theorem dX11_itemGap_35 : decode cX11_itemGap 35 = .ok (.iload_n 2, 1) := by decide +kernel
theorem dX11_itemGap_36 : decode cX11_itemGap 36 = .ok (.invokevirtual 307, 3) := by decide +kernel
theorem dX11_itemGap_39 : decode cX11_itemGap 39 = .ok (.aload_n 0, 1) := by decide +kernel
theorem dX11_itemGap_40 : decode cX11_itemGap 40 = .ok (.getfield 111, 3) := by decide +kernel
theorem dX11_itemGap_43 : decode cX11_itemGap 43 = .ok (.aload_n 0, 1) := by decide +kernel
theorem dX11_itemGap_44 : decode cX11_itemGap 44 = .ok (.getfield 107, 3) := by decide +kernel
theorem dX11_itemGap_47 : decode cX11_itemGap 47 = .ok (.iload_n 3, 1) := by decide +kernel
theorem dX11_itemGap_48 : decode cX11_itemGap 48 = .ok (.invokestatic 246, 3) := by decide +kernel
theorem dX11_itemGap_51 : decode cX11_itemGap 51 = .ok (.ireturn, 1) := by decide +kernel
abbrev rmX11_itemGap : Room := { frames := 7, cells := 0, slots := 0, locals := 280 }
abbrev sX11_itemGap (E : EV) : List AV → AH → (Option AV → AH → Prop) → Prop := Spec E yX11_itemGap cX11_itemGap 4 (some .int) rmX11_itemGap
theorem mX11_itemGap : Mt yX11_itemGap cX11_itemGap 4 (some .int) 3 := ⟨k1384, k12, by decide +kernel⟩
theorem vX11_itemGap : MtV yX11_itemGap 11 := ⟨k1382, k1383, by decide, (RX11, TX11, 26), rfl, rfl⟩
def PX11_itemGap_0 (E : EV) (post : Option AV → AH → Prop) (h : AH) (l0 : Option Nat) (l1 : Int32) (l2 : Int32) (l3 : Int32) : Prop :=
  CV (sX11_isItem E) l0 11 [aI l1] h (kI fun x1 h2 => (x1 = 0 → post (some (aI (-1000001 : Int32))) h2) ∧ (¬ x1 = 0 → CV (sX11_isItem E) l0 11 [aI l2] h2 (kI fun x3 h4 => (x3 = 0 → post (some (aI (-1000001 : Int32))) h4) ∧ (¬ x3 = 0 → (l1 = l2 → post (some (aI (-1000001 : Int32))) h4) ∧ (¬ l1 = l2 → CS (sX11_in E) [aI l3, aI (0 : Int32), aI (1 : Int32)] h4 (kI fun x5 h6 => (¬ x5 = 0 → CV (sX11_laysItemGap E) l0 11 [aI l1, aI l2] h6 (kV fun h8 => rdJ h8 l0 11 7 fun x9 => rdJ h8 l0 11 8 fun x10 => CS (sX11_part E) [aJ x9, aJ x10, aI l3] h8 (kI fun x11 h12 => post (some (aI x11)) h12))) ∧ (x5 = 0 → post (some (aI (-1000001 : Int32))) h6)))))))
theorem bX11_itemGap_0 {E : EV} {X : AX} {post : Option AV → AH → Prop} (C : Cb E X cX11_itemGap RX11 4 rmX11_itemGap) (D : Cr E X (some .int) rmX11_itemGap "itemGap" post) {h : AH} {l0 : Option Nat} {l1 : Int32} {l2 : Int32} {l3 : Int32} (w : PX11_itemGap_0 E post h l0 l1 l2 l3) : Go E X 4 0 0 0 [(0, aP l0), (1, aI l1), (2, aI l2), (3, aI l3)] [] h := by
  unfold PX11_itemGap_0 at w
  refine r_aload_n C dX11_itemGap_0 rfl 0 rfl ?_
  refine r_iload_n C dX11_itemGap_1 rfl 1 rfl ?_
  refine r_cvI (rm' := rmX11_isItem) C mX11_isItem vX11_isItem k1349 [aI l1] [] rfl rfl (Nat.le_of_ble_eq_true rfl) (by decide) ⟨Nat.zero_le _, Nat.zero_le _⟩ 0 0 rfl rfl dX11_itemGap_2 w (fun x1 h2 w => ?_)
  refine r_if_eq C dX11_itemGap_5 (tgt := 30) rfl (fun hc => ?_) (fun hc => ?_)
  · have w := w.1 hc
    refine r_ldc (v := -1000001) C dX11_itemGap_30 k1039 ?_
    exact r_iret C D rfl (Nat.zero_le _) (Nat.zero_le _) dX11_itemGap_32 w
  · have w := w.2 hc
    refine r_aload_n C dX11_itemGap_8 rfl 0 rfl ?_
    refine r_iload_n C dX11_itemGap_9 rfl 2 rfl ?_
    refine r_cvI (rm' := rmX11_isItem) C mX11_isItem vX11_isItem k1349 [aI l2] [] rfl rfl (Nat.le_of_ble_eq_true rfl) (by decide) ⟨Nat.zero_le _, Nat.zero_le _⟩ 0 0 rfl rfl dX11_itemGap_10 w (fun x3 h4 w => ?_)
    refine r_if_eq C dX11_itemGap_13 (tgt := 30) rfl (fun hc => ?_) (fun hc => ?_)
    · have w := w.1 hc
      refine r_ldc (v := -1000001) C dX11_itemGap_30 k1039 ?_
      exact r_iret C D rfl (Nat.zero_le _) (Nat.zero_le _) dX11_itemGap_32 w
    · have w := w.2 hc
      refine r_iload_n C dX11_itemGap_16 rfl 1 rfl ?_
      refine r_iload_n C dX11_itemGap_17 rfl 2 rfl ?_
      refine r_icmp_eq C dX11_itemGap_18 (tgt := 30) rfl (fun hc => ?_) (fun hc => ?_)
      · have w := w.1 hc
        refine r_ldc (v := -1000001) C dX11_itemGap_30 k1039 ?_
        exact r_iret C D rfl (Nat.zero_le _) (Nat.zero_le _) dX11_itemGap_32 w
      · have w := w.2 hc
        refine r_iload_n C dX11_itemGap_21 rfl 3 rfl ?_
        refine r_iconst (v := 0) C dX11_itemGap_22 rfl ?_
        refine r_iconst (v := 1) C dX11_itemGap_23 rfl ?_
        refine r_csI (rm' := rmX11_in) C mX11_in vX11_in k1036 [aI l3, aI (0 : Int32), aI (1 : Int32)] [] rfl rfl (Nat.le_of_ble_eq_true rfl) (by decide) ⟨Nat.zero_le _, Nat.zero_le _⟩ 0 0 rfl rfl dX11_itemGap_24 w (fun x5 h6 w => ?_)
        refine r_if_ne C dX11_itemGap_27 (tgt := 33) rfl (fun hc => ?_) (fun hc => ?_)
        · have w := w.1 hc
          refine r_aload_n C dX11_itemGap_33 rfl 0 rfl ?_
          refine r_iload_n C dX11_itemGap_34 rfl 1 rfl ?_
          refine r_iload_n C dX11_itemGap_35 rfl 2 rfl ?_
          refine r_cvV (rm' := rmX11_laysItemGap) C mX11_laysItemGap vX11_laysItemGap k1385 [aI l1, aI l2] [] rfl rfl (Nat.le_of_ble_eq_true rfl) (by decide) ⟨Nat.zero_le _, Nat.zero_le _⟩ 0 0 rfl rfl dX11_itemGap_36 w (fun h8 w => ?_)
          refine r_aload_n C dX11_itemGap_39 rfl 0 rfl ?_
          refine r_getJ C fcX11 (f := 7) (by decide) rfl k950 dX11_itemGap_40 (w.mono fun x9 w => ?_)
          refine r_aload_n C dX11_itemGap_43 rfl 0 rfl ?_
          refine r_getJ C fcX11 (f := 8) (by decide) rfl k951 dX11_itemGap_44 (w.mono fun x10 w => ?_)
          refine r_iload_n C dX11_itemGap_47 rfl 3 rfl ?_
          refine r_csI (rm' := rmX11_part) C mX11_part vX11_part k1257 [aJ x9, aJ x10, aI l3] [] rfl rfl (Nat.le_of_ble_eq_true rfl) (by decide) ⟨Nat.zero_le _, Nat.zero_le _⟩ 0 0 rfl rfl dX11_itemGap_48 w (fun x11 h12 w => ?_)
          exact r_iret C D rfl (Nat.zero_le _) (Nat.zero_le _) dX11_itemGap_51 w
        · have w := w.2 hc
          refine r_ldc (v := -1000001) C dX11_itemGap_30 k1039 ?_
          exact r_iret C D rfl (Nat.zero_le _) (Nat.zero_le _) dX11_itemGap_32 w
theorem eX11_itemGap {E : EV} {post : Option AV → AH → Prop} {h : AH} {l0 : Option Nat} {l1 : Int32} {l2 : Int32} {l3 : Int32} (w : PX11_itemGap_0 E post h l0 l1 l2 l3) : sX11_itemGap E [aP l0, aI l1, aI l2, aI l3] h post := Spec.of RX11 rfl rfl (Nat.le_of_ble_eq_true rfl) fun X C D => bX11_itemGap_0 C D w
theorem dX11_itemPlace_0 : decode cX11_itemPlace 0 = .ok (.aload_n 0, 1) := by decide +kernel
theorem dX11_itemPlace_1 : decode cX11_itemPlace 1 = .ok (.iload_n 1, 1) := by decide +kernel
theorem dX11_itemPlace_2 : decode cX11_itemPlace 2 = .ok (.invokevirtual 298, 3) := by decide +kernel
theorem dX11_itemPlace_5 : decode cX11_itemPlace 5 = .ok (.ifCond .eq 12, 3) := by decide +kernel
theorem dX11_itemPlace_8 : decode cX11_itemPlace 8 = .ok (.iload_n 2, 1) := by decide +kernel
theorem dX11_itemPlace_9 : decode cX11_itemPlace 9 = .ok (.iconst 0, 1) := by decide +kernel
theorem dX11_itemPlace_10 : decode cX11_itemPlace 10 = .ok (.iconst 1, 1) := by decide +kernel
theorem dX11_itemPlace_11 : decode cX11_itemPlace 11 = .ok (.invokestatic 46, 3) := by decide +kernel
theorem dX11_itemPlace_14 : decode cX11_itemPlace 14 = .ok (.ifCond .ne 8, 3) := by decide +kernel
theorem dX11_itemPlace_17 : decode cX11_itemPlace 17 = .ok (.ldc 145, 2) := by decide +kernel
theorem dX11_itemPlace_19 : decode cX11_itemPlace 19 = .ok (.goto 20, 3) := by decide +kernel
theorem dX11_itemPlace_22 : decode cX11_itemPlace 22 = .ok (.iload_n 2, 1) := by decide +kernel
theorem dX11_itemPlace_23 : decode cX11_itemPlace 23 = .ok (.ifCond .ne 11, 3) := by decide +kernel
theorem dX11_itemPlace_26 : decode cX11_itemPlace 26 = .ok (.aload_n 0, 1) := by decide +kernel
theorem dX11_itemPlace_27 : decode cX11_itemPlace 27 = .ok (.iload_n 1, 1) := by decide +kernel
theorem dX11_itemPlace_28 : decode cX11_itemPlace 28 = .ok (.invokevirtual 260, 3) := by decide +kernel
theorem dX11_itemPlace_31 : decode cX11_itemPlace 31 = .ok (.goto 8, 3) := by decide +kernel
theorem dX11_itemPlace_34 : decode cX11_itemPlace 34 = .ok (.aload_n 0, 1) := by decide +kernel
theorem dX11_itemPlace_35 : decode cX11_itemPlace 35 = .ok (.iload_n 1, 1) := by decide +kernel
theorem dX11_itemPlace_36 : decode cX11_itemPlace 36 = .ok (.invokevirtual 263, 3) := by decide +kernel
theorem dX11_itemPlace_39 : decode cX11_itemPlace 39 = .ok (.ireturn, 1) := by decide +kernel
abbrev rmX11_itemPlace : Room := { frames := 2, cells := 0, slots := 0, locals := 80 }
abbrev sX11_itemPlace (E : EV) : List AV → AH → (Option AV → AH → Prop) → Prop := Spec E yX11_itemPlace cX11_itemPlace 3 (some .int) rmX11_itemPlace
theorem mX11_itemPlace : Mt yX11_itemPlace cX11_itemPlace 3 (some .int) 2 := ⟨k1376, k12, by decide +kernel⟩
theorem vX11_itemPlace : MtV yX11_itemPlace 11 := ⟨k1374, k1375, by decide, (RX11, TX11, 26), rfl, rfl⟩
def PX11_itemPlace_0 (E : EV) (post : Option AV → AH → Prop) (h : AH) (l0 : Option Nat) (l1 : Int32) (l2 : Int32) : Prop :=
  CV (sX11_isItem E) l0 11 [aI l1] h (kI fun x1 h2 => (x1 = 0 → post (some (aI (-1000001 : Int32))) h2) ∧ (¬ x1 = 0 → CS (sX11_in E) [aI l2, aI (0 : Int32), aI (1 : Int32)] h2 (kI fun x3 h4 => (¬ x3 = 0 → (¬ l2 = 0 → CV (sX11_itemY E) l0 11 [aI l1] h4 (kI fun x5 h6 => post (some (aI x5)) h6)) ∧ (l2 = 0 → CV (sX11_itemX E) l0 11 [aI l1] h4 (kI fun x5 h6 => post (some (aI x5)) h6))) ∧ (x3 = 0 → post (some (aI (-1000001 : Int32))) h4))))
theorem bX11_itemPlace_0 {E : EV} {X : AX} {post : Option AV → AH → Prop} (C : Cb E X cX11_itemPlace RX11 3 rmX11_itemPlace) (D : Cr E X (some .int) rmX11_itemPlace "itemPlace" post) {h : AH} {l0 : Option Nat} {l1 : Int32} {l2 : Int32} (w : PX11_itemPlace_0 E post h l0 l1 l2) : Go E X 3 0 0 0 [(0, aP l0), (1, aI l1), (2, aI l2)] [] h := by
  unfold PX11_itemPlace_0 at w
  refine r_aload_n C dX11_itemPlace_0 rfl 0 rfl ?_
  refine r_iload_n C dX11_itemPlace_1 rfl 1 rfl ?_
  refine r_cvI (rm' := rmX11_isItem) C mX11_isItem vX11_isItem k1349 [aI l1] [] rfl rfl (Nat.le_of_ble_eq_true rfl) (by decide) ⟨Nat.zero_le _, Nat.zero_le _⟩ 0 0 rfl rfl dX11_itemPlace_2 w (fun x1 h2 w => ?_)
  refine r_if_eq C dX11_itemPlace_5 (tgt := 17) rfl (fun hc => ?_) (fun hc => ?_)
  · have w := w.1 hc
    refine r_ldc (v := -1000001) C dX11_itemPlace_17 k1039 ?_
    refine r_goto C dX11_itemPlace_19 (tgt := 39) rfl ?_
    exact r_iret C D rfl (Nat.zero_le _) (Nat.zero_le _) dX11_itemPlace_39 w
  · have w := w.2 hc
    refine r_iload_n C dX11_itemPlace_8 rfl 2 rfl ?_
    refine r_iconst (v := 0) C dX11_itemPlace_9 rfl ?_
    refine r_iconst (v := 1) C dX11_itemPlace_10 rfl ?_
    refine r_csI (rm' := rmX11_in) C mX11_in vX11_in k1036 [aI l2, aI (0 : Int32), aI (1 : Int32)] [] rfl rfl (Nat.le_of_ble_eq_true rfl) (by decide) ⟨Nat.zero_le _, Nat.zero_le _⟩ 0 0 rfl rfl dX11_itemPlace_11 w (fun x3 h4 w => ?_)
    refine r_if_ne C dX11_itemPlace_14 (tgt := 22) rfl (fun hc => ?_) (fun hc => ?_)
    · have w := w.1 hc
      refine r_iload_n C dX11_itemPlace_22 rfl 2 rfl ?_
      refine r_if_ne C dX11_itemPlace_23 (tgt := 34) rfl (fun hc => ?_) (fun hc => ?_)
      · have w := w.1 hc
        refine r_aload_n C dX11_itemPlace_34 rfl 0 rfl ?_
        refine r_iload_n C dX11_itemPlace_35 rfl 1 rfl ?_
        refine r_cvI (rm' := rmX11_itemY) C mX11_itemY vX11_itemY k1288 [aI l1] [] rfl rfl (Nat.le_of_ble_eq_true rfl) (by decide) ⟨Nat.zero_le _, Nat.zero_le _⟩ 0 0 rfl rfl dX11_itemPlace_36 w (fun x5 h6 w => ?_)
        exact r_iret C D rfl (Nat.zero_le _) (Nat.zero_le _) dX11_itemPlace_39 w
      · have w := w.2 hc
        refine r_aload_n C dX11_itemPlace_26 rfl 0 rfl ?_
        refine r_iload_n C dX11_itemPlace_27 rfl 1 rfl ?_
        refine r_cvI (rm' := rmX11_itemX) C mX11_itemX vX11_itemX k1284 [aI l1] [] rfl rfl (Nat.le_of_ble_eq_true rfl) (by decide) ⟨Nat.zero_le _, Nat.zero_le _⟩ 0 0 rfl rfl dX11_itemPlace_28 w (fun x5 h6 w => ?_)
        refine r_goto C dX11_itemPlace_31 (tgt := 39) rfl ?_
        exact r_iret C D rfl (Nat.zero_le _) (Nat.zero_le _) dX11_itemPlace_39 w
    · have w := w.2 hc
      refine r_ldc (v := -1000001) C dX11_itemPlace_17 k1039 ?_
      refine r_goto C dX11_itemPlace_19 (tgt := 39) rfl ?_
      exact r_iret C D rfl (Nat.zero_le _) (Nat.zero_le _) dX11_itemPlace_39 w
theorem eX11_itemPlace {E : EV} {post : Option AV → AH → Prop} {h : AH} {l0 : Option Nat} {l1 : Int32} {l2 : Int32} (w : PX11_itemPlace_0 E post h l0 l1 l2) : sX11_itemPlace E [aP l0, aI l1, aI l2] h post := Spec.of RX11 rfl rfl (Nat.le_of_ble_eq_true rfl) fun X C D => bX11_itemPlace_0 C D w
theorem dX11_laysSum_0 : decode cX11_laysSum 0 = .ok (.aload_n 0, 1) := by decide +kernel
theorem dX11_laysSum_1 : decode cX11_laysSum 1 = .ok (.iconst 0, 1) := by decide +kernel
theorem dX11_laysSum_2 : decode cX11_laysSum 2 = .ok (.putfield 208, 3) := by decide +kernel
theorem dX11_laysSum_5 : decode cX11_laysSum 5 = .ok (.iconst 0, 1) := by decide +kernel
theorem dX11_laysSum_6 : decode cX11_laysSum 6 = .ok (.istore 6, 2) := by decide +kernel
theorem dX11_laysSum_8 : decode cX11_laysSum 8 = .ok (.iload 6, 2) := by decide +kernel
theorem dX11_laysSum_10 : decode cX11_laysSum 10 = .ok (.aload_n 0, 1) := by decide +kernel
theorem dX11_laysSum_11 : decode cX11_laysSum 11 = .ok (.iload_n 2, 1) := by decide +kernel
theorem dX11_laysSum_12 : decode cX11_laysSum 12 = .ok (.iload_n 3, 1) := by decide +kernel
theorem dX11_laysSum_13 : decode cX11_laysSum 13 = .ok (.invokevirtual 54, 3) := by decide +kernel
theorem dX11_laysSum_16 : decode cX11_laysSum 16 = .ok (.if_icmp .ge 77, 3) := by decide +kernel
theorem dX11_laysSum_19 : decode cX11_laysSum 19 = .ok (.iconst 0, 1) := by decide +kernel
theorem dX11_laysSum_20 : decode cX11_laysSum 20 = .ok (.istore 7, 2) := by decide +kernel
theorem dX11_laysSum_22 : decode cX11_laysSum 22 = .ok (.iload 7, 2) := by decide +kernel
theorem dX11_laysSum_24 : decode cX11_laysSum 24 = .ok (.aload_n 0, 1) := by decide +kernel
theorem dX11_laysSum_25 : decode cX11_laysSum 25 = .ok (.iload 4, 2) := by decide +kernel
theorem dX11_laysSum_27 : decode cX11_laysSum 27 = .ok (.iload 5, 2) := by decide +kernel
theorem dX11_laysSum_29 : decode cX11_laysSum 29 = .ok (.invokevirtual 54, 3) := by decide +kernel
theorem dX11_laysSum_32 : decode cX11_laysSum 32 = .ok (.if_icmp .ge 55, 3) := by decide +kernel
theorem dX11_laysSum_35 : decode cX11_laysSum 35 = .ok (.aload_n 0, 1) := by decide +kernel
theorem dX11_laysSum_36 : decode cX11_laysSum 36 = .ok (.aload_n 0, 1) := by decide +kernel
theorem dX11_laysSum_37 : decode cX11_laysSum 37 = .ok (.iload_n 2, 1) := by decide +kernel
theorem dX11_laysSum_38 : decode cX11_laysSum 38 = .ok (.iload_n 3, 1) := by decide +kernel
theorem dX11_laysSum_39 : decode cX11_laysSum 39 = .ok (.iload 6, 2) := by decide +kernel
theorem dX11_laysSum_41 : decode cX11_laysSum 41 = .ok (.invokevirtual 58, 3) := by decide +kernel
theorem dX11_laysSum_44 : decode cX11_laysSum 44 = .ok (.iload_n 1, 1) := by decide +kernel
theorem dX11_laysSum_45 : decode cX11_laysSum 45 = .ok (.aload_n 0, 1) := by decide +kernel
theorem dX11_laysSum_46 : decode cX11_laysSum 46 = .ok (.iload 4, 2) := by decide +kernel
theorem dX11_laysSum_48 : decode cX11_laysSum 48 = .ok (.iload 5, 2) := by decide +kernel
theorem dX11_laysSum_50 : decode cX11_laysSum 50 = .ok (.iload 7, 2) := by decide +kernel
theorem dX11_laysSum_52 : decode cX11_laysSum 52 = .ok (.invokevirtual 58, 3) := by decide +kernel
theorem dX11_laysSum_55 : decode cX11_laysSum 55 = .ok (.imul, 1) := by decide +kernel
theorem dX11_laysSum_56 : decode cX11_laysSum 56 = .ok (.iadd, 1) := by decide +kernel
theorem dX11_laysSum_57 : decode cX11_laysSum 57 = .ok (.aload_n 0, 1) := by decide +kernel
theorem dX11_laysSum_58 : decode cX11_laysSum 58 = .ok (.iload_n 2, 1) := by decide +kernel
theorem dX11_laysSum_59 : decode cX11_laysSum 59 = .ok (.iload_n 3, 1) := by decide +kernel
theorem dX11_laysSum_60 : decode cX11_laysSum 60 = .ok (.iload 6, 2) := by decide +kernel
theorem dX11_laysSum_62 : decode cX11_laysSum 62 = .ok (.invokevirtual 62, 3) := by decide +kernel
theorem dX11_laysSum_65 : decode cX11_laysSum 65 = .ok (.iload_n 1, 1) := by decide +kernel
theorem dX11_laysSum_66 : decode cX11_laysSum 66 = .ok (.aload_n 0, 1) := by decide +kernel
theorem dX11_laysSum_67 : decode cX11_laysSum 67 = .ok (.iload 4, 2) := by decide +kernel
theorem dX11_laysSum_69 : decode cX11_laysSum 69 = .ok (.iload 5, 2) := by decide +kernel
theorem dX11_laysSum_71 : decode cX11_laysSum 71 = .ok (.iload 7, 2) := by decide +kernel
theorem dX11_laysSum_73 : decode cX11_laysSum 73 = .ok (.invokevirtual 62, 3) := by decide +kernel
theorem dX11_laysSum_76 : decode cX11_laysSum 76 = .ok (.imul, 1) := by decide +kernel
theorem dX11_laysSum_77 : decode cX11_laysSum 77 = .ok (.iadd, 1) := by decide +kernel
theorem dX11_laysSum_78 : decode cX11_laysSum 78 = .ok (.invokevirtual 217, 3) := by decide +kernel
theorem dX11_laysSum_81 : decode cX11_laysSum 81 = .ok (.iinc 7 1, 3) := by decide +kernel
theorem dX11_laysSum_84 : decode cX11_laysSum 84 = .ok (.goto (-62), 3) := by decide +kernel
theorem dX11_laysSum_87 : decode cX11_laysSum 87 = .ok (.iinc 6 1, 3) := by decide +kernel
theorem dX11_laysSum_90 : decode cX11_laysSum 90 = .ok (.goto (-82), 3) := by decide +kernel
theorem dX11_laysSum_93 : decode cX11_laysSum 93 = .ok (.aload_n 0, 1) := by decide +kernel
theorem dX11_laysSum_94 : decode cX11_laysSum 94 = .ok (.invokevirtual 220, 3) := by decide +kernel
theorem dX11_laysSum_97 : decode cX11_laysSum 97 = .ok (.return_, 1) := by decide +kernel
abbrev rmX11_laysSum : Room := { frames := 3, cells := 0, slots := 0, locals := 120 }
abbrev sX11_laysSum (E : EV) : List AV → AH → (Option AV → AH → Prop) → Prop := Spec E yX11_laysSum cX11_laysSum 8 none rmX11_laysSum
theorem mX11_laysSum : Mt yX11_laysSum cX11_laysSum 8 none 5 := ⟨k1197, k12, by decide +kernel⟩
theorem vX11_laysSum : MtV yX11_laysSum 11 := ⟨k1196, kp53, by decide, (RX11, TX11, 26), rfl, rfl⟩
def PX11_laysSum_22 (E : EV) (post : Option AV → AH → Prop) (J8 : AH → Option Nat → Int32 → Int32 → Int32 → Int32 → Int32 → Int32 → Prop) (J22 : AH → Option Nat → Int32 → Int32 → Int32 → Int32 → Int32 → Int32 → Int32 → Prop) (h : AH) (l0 : Option Nat) (l1 : Int32) (l2 : Int32) (l3 : Int32) (l4 : Int32) (l5 : Int32) (l6 : Int32) (l7 : Int32) : Prop :=
  CV (sX11_vertices E) l0 11 [aI l4, aI l5] h (kI fun x1 h2 => (x1 ≤ l7 → J8 h2 l0 l1 l2 l3 l4 l5 (l6 + (1 : Int32))) ∧ (¬ x1 ≤ l7 → CV (sX11_xOf E) l0 11 [aI l2, aI l3, aI l6] h2 (kI fun x3 h4 => CV (sX11_xOf E) l0 11 [aI l4, aI l5, aI l7] h4 (kI fun x5 h6 => CV (sX11_yOf E) l0 11 [aI l2, aI l3, aI l6] h6 (kI fun x7 h8 => CV (sX11_yOf E) l0 11 [aI l4, aI l5, aI l7] h8 (kI fun x9 h10 => CV (sX11_point E) l0 11 [aI (x3 + (l1 * x5)), aI (x7 + (l1 * x9))] h10 (kV fun h12 => J22 h12 l0 l1 l2 l3 l4 l5 l6 (l7 + (1 : Int32)))))))))
theorem bX11_laysSum_22 {E : EV} {X : AX} {post : Option AV → AH → Prop} (C : Cb E X cX11_laysSum RX11 8 rmX11_laysSum) (D : Cr E X none rmX11_laysSum "laysSum" post) {J8 : AH → Option Nat → Int32 → Int32 → Int32 → Int32 → Int32 → Int32 → Prop} (g8 : ∀ (h : AH) (l0 : Option Nat) (l1 : Int32) (l2 : Int32) (l3 : Int32) (l4 : Int32) (l5 : Int32) (l6 : Int32), J8 h l0 l1 l2 l3 l4 l5 l6 → Go E X 8 0 0 8 [(0, aP l0), (1, aI l1), (2, aI l2), (3, aI l3), (4, aI l4), (5, aI l5), (6, aI l6)] [] h) {J22 : AH → Option Nat → Int32 → Int32 → Int32 → Int32 → Int32 → Int32 → Int32 → Prop} (g22 : ∀ (h : AH) (l0 : Option Nat) (l1 : Int32) (l2 : Int32) (l3 : Int32) (l4 : Int32) (l5 : Int32) (l6 : Int32) (l7 : Int32), J22 h l0 l1 l2 l3 l4 l5 l6 l7 → Go E X 8 0 0 22 [(0, aP l0), (1, aI l1), (2, aI l2), (3, aI l3), (4, aI l4), (5, aI l5), (6, aI l6), (7, aI l7)] [] h) {h : AH} {l0 : Option Nat} {l1 : Int32} {l2 : Int32} {l3 : Int32} {l4 : Int32} {l5 : Int32} {l6 : Int32} {l7 : Int32} (w : PX11_laysSum_22 E post J8 J22 h l0 l1 l2 l3 l4 l5 l6 l7) : Go E X 8 0 0 22 [(0, aP l0), (1, aI l1), (2, aI l2), (3, aI l3), (4, aI l4), (5, aI l5), (6, aI l6), (7, aI l7)] [] h := by
  unfold PX11_laysSum_22 at w
  refine r_iload C dX11_laysSum_22 7 rfl ?_
  refine r_aload_n C dX11_laysSum_24 rfl 0 rfl ?_
  refine r_iload C dX11_laysSum_25 4 rfl ?_
  refine r_iload C dX11_laysSum_27 5 rfl ?_
  refine r_cvI (rm' := rmX11_vertices) C mX11_vertices vX11_vertices k1072 [aI l4, aI l5] [aI l7] rfl rfl (Nat.le_of_ble_eq_true rfl) (by decide) ⟨Nat.zero_le _, Nat.zero_le _⟩ 0 0 rfl rfl dX11_laysSum_29 w (fun x1 h2 w => ?_)
  refine r_icmp_ge C dX11_laysSum_32 (tgt := 87) rfl (fun hc => ?_) (fun hc => ?_)
  · have w := w.1 hc
    refine r_iinc C dX11_laysSum_87 6 rfl (v := 1) rfl (by decide) rfl ?_
    refine r_goto C dX11_laysSum_90 (tgt := 8) rfl ?_
    exact r_sub [1, 2, 3, 4, 5, 6, 0] rfl (g8 h2 l0 l1 l2 l3 l4 l5 (l6 + (1 : Int32)) w)
  · have w := w.2 hc
    refine r_aload_n C dX11_laysSum_35 rfl 0 rfl ?_
    refine r_aload_n C dX11_laysSum_36 rfl 0 rfl ?_
    refine r_iload_n C dX11_laysSum_37 rfl 2 rfl ?_
    refine r_iload_n C dX11_laysSum_38 rfl 3 rfl ?_
    refine r_iload C dX11_laysSum_39 6 rfl ?_
    refine r_cvI (rm' := rmX11_xOf) C mX11_xOf vX11_xOf k1076 [aI l2, aI l3, aI l6] [aP l0] rfl rfl (Nat.le_of_ble_eq_true rfl) (by decide) ⟨Nat.zero_le _, Nat.zero_le _⟩ 0 0 rfl rfl dX11_laysSum_41 w (fun x3 h4 w => ?_)
    refine r_iload_n C dX11_laysSum_44 rfl 1 rfl ?_
    refine r_aload_n C dX11_laysSum_45 rfl 0 rfl ?_
    refine r_iload C dX11_laysSum_46 4 rfl ?_
    refine r_iload C dX11_laysSum_48 5 rfl ?_
    refine r_iload C dX11_laysSum_50 7 rfl ?_
    refine r_cvI (rm' := rmX11_xOf) C mX11_xOf vX11_xOf k1076 [aI l4, aI l5, aI l7] [aI l1, aI x3, aP l0] rfl rfl (Nat.le_of_ble_eq_true rfl) (by decide) ⟨Nat.zero_le _, Nat.zero_le _⟩ 0 0 rfl rfl dX11_laysSum_52 w (fun x5 h6 w => ?_)
    refine r_imul C dX11_laysSum_55 ?_
    refine r_iadd C dX11_laysSum_56 ?_
    refine r_aload_n C dX11_laysSum_57 rfl 0 rfl ?_
    refine r_iload_n C dX11_laysSum_58 rfl 2 rfl ?_
    refine r_iload_n C dX11_laysSum_59 rfl 3 rfl ?_
    refine r_iload C dX11_laysSum_60 6 rfl ?_
    refine r_cvI (rm' := rmX11_yOf) C mX11_yOf vX11_yOf k1080 [aI l2, aI l3, aI l6] [aI (x3 + (l1 * x5)), aP l0] rfl rfl (Nat.le_of_ble_eq_true rfl) (by decide) ⟨Nat.zero_le _, Nat.zero_le _⟩ 0 0 rfl rfl dX11_laysSum_62 w (fun x7 h8 w => ?_)
    refine r_iload_n C dX11_laysSum_65 rfl 1 rfl ?_
    refine r_aload_n C dX11_laysSum_66 rfl 0 rfl ?_
    refine r_iload C dX11_laysSum_67 4 rfl ?_
    refine r_iload C dX11_laysSum_69 5 rfl ?_
    refine r_iload C dX11_laysSum_71 7 rfl ?_
    refine r_cvI (rm' := rmX11_yOf) C mX11_yOf vX11_yOf k1080 [aI l4, aI l5, aI l7] [aI l1, aI x7, aI (x3 + (l1 * x5)), aP l0] rfl rfl (Nat.le_of_ble_eq_true rfl) (by decide) ⟨Nat.zero_le _, Nat.zero_le _⟩ 0 0 rfl rfl dX11_laysSum_73 w (fun x9 h10 w => ?_)
    refine r_imul C dX11_laysSum_76 ?_
    refine r_iadd C dX11_laysSum_77 ?_
    refine r_cvV (rm' := rmX11_point) C mX11_point vX11_point k1151 [aI (x3 + (l1 * x5)), aI (x7 + (l1 * x9))] [] rfl rfl (Nat.le_of_ble_eq_true rfl) (by decide) ⟨Nat.zero_le _, Nat.zero_le _⟩ 0 0 rfl rfl dX11_laysSum_78 w (fun h12 w => ?_)
    refine r_iinc C dX11_laysSum_81 7 rfl (v := 1) rfl (by decide) rfl ?_
    refine r_goto C dX11_laysSum_84 (tgt := 22) rfl ?_
    exact r_sub [1, 2, 3, 4, 5, 6, 7, 0] rfl (g22 h12 l0 l1 l2 l3 l4 l5 l6 (l7 + (1 : Int32)) w)
theorem lpX11_laysSum_22 {E : EV} {X : AX} {post : Option AV → AH → Prop} (C : Cb E X cX11_laysSum RX11 8 rmX11_laysSum) (D : Cr E X none rmX11_laysSum "laysSum" post) {J8 : AH → Option Nat → Int32 → Int32 → Int32 → Int32 → Int32 → Int32 → Prop} (g8 : ∀ (h : AH) (l0 : Option Nat) (l1 : Int32) (l2 : Int32) (l3 : Int32) (l4 : Int32) (l5 : Int32) (l6 : Int32), J8 h l0 l1 l2 l3 l4 l5 l6 → Go E X 8 0 0 8 [(0, aP l0), (1, aI l1), (2, aI l2), (3, aI l3), (4, aI l4), (5, aI l5), (6, aI l6)] [] h) (I : Nat → AH → Option Nat → Int32 → Int32 → Int32 → Int32 → Int32 → Int32 → Int32 → Prop) (step : ∀ (z : Nat) (h : AH) (l0 : Option Nat) (l1 : Int32) (l2 : Int32) (l3 : Int32) (l4 : Int32) (l5 : Int32) (l6 : Int32) (l7 : Int32), I z h l0 l1 l2 l3 l4 l5 l6 l7 → PX11_laysSum_22 E post J8 (fun h l0 l1 l2 l3 l4 l5 l6 l7 => ∃ z', z' < z ∧ I z' h l0 l1 l2 l3 l4 l5 l6 l7) h l0 l1 l2 l3 l4 l5 l6 l7) : ∀ (z : Nat) (h : AH) (l0 : Option Nat) (l1 : Int32) (l2 : Int32) (l3 : Int32) (l4 : Int32) (l5 : Int32) (l6 : Int32) (l7 : Int32), I z h l0 l1 l2 l3 l4 l5 l6 l7 → Go E X 8 0 0 22 [(0, aP l0), (1, aI l1), (2, aI l2), (3, aI l3), (4, aI l4), (5, aI l5), (6, aI l6), (7, aI l7)] [] h := by
  intro z
  induction z using Nat.strongRecOn with
  | _ z ih =>
    intro h l0 l1 l2 l3 l4 l5 l6 l7 hI
    exact bX11_laysSum_22 C D g8 (fun h l0 l1 l2 l3 l4 l5 l6 l7 hJ => by obtain ⟨z', hz, hi⟩ := hJ; exact ih z' hz h l0 l1 l2 l3 l4 l5 l6 l7 hi) (step z h l0 l1 l2 l3 l4 l5 l6 l7 hI)
def PX11_laysSum_8 (E : EV) (post : Option AV → AH → Prop) (J22 : AH → Option Nat → Int32 → Int32 → Int32 → Int32 → Int32 → Int32 → Int32 → Prop) (h : AH) (l0 : Option Nat) (l1 : Int32) (l2 : Int32) (l3 : Int32) (l4 : Int32) (l5 : Int32) (l6 : Int32) : Prop :=
  CV (sX11_vertices E) l0 11 [aI l2, aI l3] h (kI fun x1 h2 => (x1 ≤ l6 → CV (sX11_laysHull E) l0 11 [] h2 (kV fun h4 => post none h4)) ∧ (¬ x1 ≤ l6 → J22 h2 l0 l1 l2 l3 l4 l5 l6 (0 : Int32)))
theorem bX11_laysSum_8 {E : EV} {X : AX} {post : Option AV → AH → Prop} (C : Cb E X cX11_laysSum RX11 8 rmX11_laysSum) (D : Cr E X none rmX11_laysSum "laysSum" post) {J22 : AH → Option Nat → Int32 → Int32 → Int32 → Int32 → Int32 → Int32 → Int32 → Prop} (g22 : ∀ (h : AH) (l0 : Option Nat) (l1 : Int32) (l2 : Int32) (l3 : Int32) (l4 : Int32) (l5 : Int32) (l6 : Int32) (l7 : Int32), J22 h l0 l1 l2 l3 l4 l5 l6 l7 → Go E X 8 0 0 22 [(0, aP l0), (1, aI l1), (2, aI l2), (3, aI l3), (4, aI l4), (5, aI l5), (6, aI l6), (7, aI l7)] [] h) {h : AH} {l0 : Option Nat} {l1 : Int32} {l2 : Int32} {l3 : Int32} {l4 : Int32} {l5 : Int32} {l6 : Int32} (w : PX11_laysSum_8 E post J22 h l0 l1 l2 l3 l4 l5 l6) : Go E X 8 0 0 8 [(0, aP l0), (1, aI l1), (2, aI l2), (3, aI l3), (4, aI l4), (5, aI l5), (6, aI l6)] [] h := by
  unfold PX11_laysSum_8 at w
  refine r_iload C dX11_laysSum_8 6 rfl ?_
  refine r_aload_n C dX11_laysSum_10 rfl 0 rfl ?_
  refine r_iload_n C dX11_laysSum_11 rfl 2 rfl ?_
  refine r_iload_n C dX11_laysSum_12 rfl 3 rfl ?_
  refine r_cvI (rm' := rmX11_vertices) C mX11_vertices vX11_vertices k1072 [aI l2, aI l3] [aI l6] rfl rfl (Nat.le_of_ble_eq_true rfl) (by decide) ⟨Nat.zero_le _, Nat.zero_le _⟩ 0 0 rfl rfl dX11_laysSum_13 w (fun x1 h2 w => ?_)
  refine r_icmp_ge C dX11_laysSum_16 (tgt := 93) rfl (fun hc => ?_) (fun hc => ?_)
  · have w := w.1 hc
    refine r_aload_n C dX11_laysSum_93 rfl 0 rfl ?_
    refine r_cvV (rm' := rmX11_laysHull) C mX11_laysHull vX11_laysHull k1155 [] [] rfl rfl (Nat.le_of_ble_eq_true rfl) (by decide) ⟨Nat.zero_le _, Nat.zero_le _⟩ 0 0 rfl rfl dX11_laysSum_94 w (fun h4 w => ?_)
    exact r_vret C D rfl (Nat.zero_le _) (Nat.zero_le _) dX11_laysSum_97 w
  · have w := w.2 hc
    refine r_iconst (v := 0) C dX11_laysSum_19 rfl ?_
    refine r_istore C dX11_laysSum_20 (by decide) rfl ?_
    exact r_sub [1, 2, 3, 4, 5, 6, 7, 0] rfl (g22 h2 l0 l1 l2 l3 l4 l5 l6 (0 : Int32) w)
def PX11_laysSum_0 (E : EV) (post : Option AV → AH → Prop) (J8 : AH → Option Nat → Int32 → Int32 → Int32 → Int32 → Int32 → Int32 → Prop) (h : AH) (l0 : Option Nat) (l1 : Int32) (l2 : Int32) (l3 : Int32) (l4 : Int32) (l5 : Int32) : Prop :=
  wr h l0 11 15 (aI (0 : Int32)) fun h1 => J8 h1 l0 l1 l2 l3 l4 l5 (0 : Int32)
theorem bX11_laysSum_0 {E : EV} {X : AX} {post : Option AV → AH → Prop} (C : Cb E X cX11_laysSum RX11 8 rmX11_laysSum) (D : Cr E X none rmX11_laysSum "laysSum" post) {J8 : AH → Option Nat → Int32 → Int32 → Int32 → Int32 → Int32 → Int32 → Prop} (g8 : ∀ (h : AH) (l0 : Option Nat) (l1 : Int32) (l2 : Int32) (l3 : Int32) (l4 : Int32) (l5 : Int32) (l6 : Int32), J8 h l0 l1 l2 l3 l4 l5 l6 → Go E X 8 0 0 8 [(0, aP l0), (1, aI l1), (2, aI l2), (3, aI l3), (4, aI l4), (5, aI l5), (6, aI l6)] [] h) {h : AH} {l0 : Option Nat} {l1 : Int32} {l2 : Int32} {l3 : Int32} {l4 : Int32} {l5 : Int32} (w : PX11_laysSum_0 E post J8 h l0 l1 l2 l3 l4 l5) : Go E X 8 0 0 0 [(0, aP l0), (1, aI l1), (2, aI l2), (3, aI l3), (4, aI l4), (5, aI l5)] [] h := by
  unfold PX11_laysSum_0 at w
  refine r_aload_n C dX11_laysSum_0 rfl 0 rfl ?_
  refine r_iconst (v := 0) C dX11_laysSum_1 rfl ?_
  refine r_put C fcX11 (f := 15) (by decide) rfl rfl rfl rfl k958 dX11_laysSum_2 (w.mono fun h1 w => ?_)
  refine r_iconst (v := 0) C dX11_laysSum_5 rfl ?_
  refine r_istore C dX11_laysSum_6 (by decide) rfl ?_
  exact r_sub [1, 2, 3, 4, 5, 6, 0] rfl (g8 h1 l0 l1 l2 l3 l4 l5 (0 : Int32) w)
theorem eX11_laysSum {E : EV} {post : Option AV → AH → Prop} {h : AH} {l0 : Option Nat} {l1 : Int32} {l2 : Int32} {l3 : Int32} {l4 : Int32} {l5 : Int32} {J8 : AH → Option Nat → Int32 → Int32 → Int32 → Int32 → Int32 → Int32 → Prop} (g8 : ∀ X : AX, Cb E X cX11_laysSum RX11 8 rmX11_laysSum → Cr E X none rmX11_laysSum "laysSum" post → ∀ (h : AH) (l0 : Option Nat) (l1 : Int32) (l2 : Int32) (l3 : Int32) (l4 : Int32) (l5 : Int32) (l6 : Int32), J8 h l0 l1 l2 l3 l4 l5 l6 → Go E X 8 0 0 8 [(0, aP l0), (1, aI l1), (2, aI l2), (3, aI l3), (4, aI l4), (5, aI l5), (6, aI l6)] [] h) (w : PX11_laysSum_0 E post J8 h l0 l1 l2 l3 l4 l5) : sX11_laysSum E [aP l0, aI l1, aI l2, aI l3, aI l4, aI l5] h post := Spec.of RX11 rfl rfl (Nat.le_of_ble_eq_true rfl) fun X C D => bX11_laysSum_0 C D (g8 X C D) w
