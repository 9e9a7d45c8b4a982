theorem dX10_allItemsFit_0 : decode cX10_allItemsFit 0 = .ok (.iconst 0, 1) := by decide +kernel
theorem dX10_allItemsFit_1 : decode cX10_allItemsFit 1 = .ok (.istore_n 1, 1) := by decide +kernel
theorem dX10_allItemsFit_2 : decode cX10_allItemsFit 2 = .ok (.iload_n 1, 1) := by decide +kernel
theorem dX10_allItemsFit_3 : decode cX10_allItemsFit 3 = .ok (.aload_n 0, 1) := by decide +kernel
theorem dX10_allItemsFit_4 : decode cX10_allItemsFit 4 = .ok (.getfield 52, 3) := by decide +kernel
theorem dX10_allItemsFit_7 : decode cX10_allItemsFit 7 = .ok (.getfield 218, 3) := by decide +kernel
theorem dX10_allItemsFit_10 : decode cX10_allItemsFit 10 = .ok (.if_icmp .ge 57, 3) := by decide +kernel
theorem dX10_allItemsFit_13 : decode cX10_allItemsFit 13 = .ok (.aload_n 0, 1) := by decide +kernel
theorem dX10_allItemsFit_14 : decode cX10_allItemsFit 14 = .ok (.getfield 43, 3) := by decide +kernel
theorem dX10_allItemsFit_17 : decode cX10_allItemsFit 17 = .ok (.aload_n 0, 1) := by decide +kernel
theorem dX10_allItemsFit_18 : decode cX10_allItemsFit 18 = .ok (.getfield 52, 3) := by decide +kernel
theorem dX10_allItemsFit_21 : decode cX10_allItemsFit 21 = .ok (.aload_n 0, 1) := by decide +kernel
theorem dX10_allItemsFit_22 : decode cX10_allItemsFit 22 = .ok (.getfield 52, 3) := by decide +kernel
theorem dX10_allItemsFit_25 : decode cX10_allItemsFit 25 = .ok (.iload_n 1, 1) := by decide +kernel
theorem dX10_allItemsFit_26 : decode cX10_allItemsFit 26 = .ok (.invokevirtual 261, 3) := by decide +kernel
theorem dX10_allItemsFit_29 : decode cX10_allItemsFit 29 = .ok (.iload_n 1, 1) := by decide +kernel
theorem dX10_allItemsFit_30 : decode cX10_allItemsFit 30 = .ok (.invokevirtual 263, 3) := by decide +kernel
theorem dX10_allItemsFit_33 : decode cX10_allItemsFit 33 = .ok (.aload_n 0, 1) := by decide +kernel
theorem dX10_allItemsFit_34 : decode cX10_allItemsFit 34 = .ok (.getfield 43, 3) := by decide +kernel
theorem dX10_allItemsFit_37 : decode cX10_allItemsFit 37 = .ok (.aload_n 0, 1) := by decide +kernel
theorem dX10_allItemsFit_38 : decode cX10_allItemsFit 38 = .ok (.getfield 52, 3) := by decide +kernel
theorem dX10_allItemsFit_41 : decode cX10_allItemsFit 41 = .ok (.iload_n 1, 1) := by decide +kernel
theorem dX10_allItemsFit_42 : decode cX10_allItemsFit 42 = .ok (.invokevirtual 274, 3) := by decide +kernel
theorem dX10_allItemsFit_45 : decode cX10_allItemsFit 45 = .ok (.aload_n 0, 1) := by decide +kernel
theorem dX10_allItemsFit_46 : decode cX10_allItemsFit 46 = .ok (.getfield 52, 3) := by decide +kernel
theorem dX10_allItemsFit_49 : decode cX10_allItemsFit 49 = .ok (.iload_n 1, 1) := by decide +kernel
theorem dX10_allItemsFit_50 : decode cX10_allItemsFit 50 = .ok (.invokevirtual 275, 3) := by decide +kernel
theorem dX10_allItemsFit_53 : decode cX10_allItemsFit 53 = .ok (.invokevirtual 335, 3) := by decide +kernel
theorem dX10_allItemsFit_56 : decode cX10_allItemsFit 56 = .ok (.ifCond .ne 5, 3) := by decide +kernel
theorem dX10_allItemsFit_59 : decode cX10_allItemsFit 59 = .ok (.iconst 0, 1) := by decide +kernel
theorem dX10_allItemsFit_60 : decode cX10_allItemsFit 60 = .ok (.ireturn, 1) := by decide +kernel
theorem dX10_allItemsFit_61 : decode cX10_allItemsFit 61 = .ok (.iinc 1 1, 3) := by decide +kernel
theorem dX10_allItemsFit_64 : decode cX10_allItemsFit 64 = .ok (.goto (-62), 3) := by decide +kernel
theorem dX10_allItemsFit_67 : decode cX10_allItemsFit 67 = .ok (.iconst 1, 1) := by decide +kernel
theorem dX10_allItemsFit_68 : decode cX10_allItemsFit 68 = .ok (.ireturn, 1) := by decide +kernel
abbrev rmX10_allItemsFit : Room := { frames := 5, cells := 0, slots := 0, locals := 200 }
abbrev sX10_allItemsFit (E : EV) : List AV → AH → (Option AV → AH → Prop) → Prop := Spec E yX10_allItemsFit cX10_allItemsFit 2 (some .boolean) rmX10_allItemsFit
theorem mX10_allItemsFit : Mt yX10_allItemsFit cX10_allItemsFit 2 (some .boolean) 0 := ⟨k787, k1, by decide +kernel⟩
theorem vX10_allItemsFit : MtV yX10_allItemsFit 10 := ⟨k786, kp16, by decide, (RX10, TX10, 12), rfl, rfl⟩
def PX10_allItemsFit_2 (E : EV) (post : Option AV → AH → Prop) (J2 : AH → Option Nat → Int32 → Prop) (h : AH) (l0 : Option Nat) (l1 : Int32) : Prop :=
  rdP h l0 10 5 fun x1 => rdI h x1 8 5 fun x2 => (x2 ≤ l1 → post (some (aI (1 : Int32))) h) ∧ (¬ x2 ≤ l1 → rdP h l0 10 4 fun x3 => rdP h l0 10 5 fun x4 => rdP h l0 10 5 fun x5 => CV (sX8_shape E) x5 8 [aI l1] h (kP fun x6 h7 => CV (sX4_prepare E) x3 4 [aP x4, aP x6, aI l1] h7 (kV fun h9 => rdP h9 l0 10 4 fun x10 => rdP h9 l0 10 5 fun x11 => CV (sX8_x E) x11 8 [aI l1] h9 (kI fun x12 h13 => rdP h13 l0 10 5 fun x14 => CV (sX8_y E) x14 8 [aI l1] h13 (kI fun x15 h16 => CV (sX4_isFree E) x10 4 [aI x12, aI x15] h16 (kI fun x17 h18 => (¬ x17 = 0 → J2 h18 l0 (l1 + (1 : Int32))) ∧ (x17 = 0 → post (some (aI (0 : Int32))) h18)))))))
theorem bX10_allItemsFit_2 {E : EV} {X : AX} {post : Option AV → AH → Prop} (C : Cb E X cX10_allItemsFit RX10 2 rmX10_allItemsFit) (D : Cr E X (some .boolean) rmX10_allItemsFit "allItemsFit" post) {J2 : AH → Option Nat → Int32 → Prop} (g2 : ∀ (h : AH) (l0 : Option Nat) (l1 : Int32), J2 h l0 l1 → Go E X 2 0 0 2 [(0, aP l0), (1, aI l1)] [] h) {h : AH} {l0 : Option Nat} {l1 : Int32} (w : PX10_allItemsFit_2 E post J2 h l0 l1) : Go E X 2 0 0 2 [(0, aP l0), (1, aI l1)] [] h := by
  unfold PX10_allItemsFit_2 at w
  refine r_iload_n C dX10_allItemsFit_2 rfl 1 rfl ?_
  refine r_aload_n C dX10_allItemsFit_3 rfl 0 rfl ?_
  refine r_getP C fcX10 (f := 5) (by decide) rfl k313 dX10_allItemsFit_4 (w.mono fun x1 w => ?_)
  refine r_getI C fcX8 (f := 5) (by decide) rfl k258 dX10_allItemsFit_7 (w.mono fun x2 w => ?_)
  refine r_icmp_ge C dX10_allItemsFit_10 (tgt := 67) rfl (fun hc => ?_) (fun hc => ?_)
  · have w := w.1 hc
    refine r_iconst (v := 1) C dX10_allItemsFit_67 rfl ?_
    exact r_zret C D rfl (Or.inr rfl) (Nat.zero_le _) (Nat.zero_le _) dX10_allItemsFit_68 w
  · have w := w.2 hc
    refine r_aload_n C dX10_allItemsFit_13 rfl 0 rfl ?_
    refine r_getP C fcX10 (f := 4) (by decide) rfl k312 dX10_allItemsFit_14 (w.mono fun x3 w => ?_)
    refine r_aload_n C dX10_allItemsFit_17 rfl 0 rfl ?_
    refine r_getP C fcX10 (f := 5) (by decide) rfl k313 dX10_allItemsFit_18 (w.mono fun x4 w => ?_)
    refine r_aload_n C dX10_allItemsFit_21 rfl 0 rfl ?_
    refine r_getP C fcX10 (f := 5) (by decide) rfl k313 dX10_allItemsFit_22 (w.mono fun x5 w => ?_)
    refine r_iload_n C dX10_allItemsFit_25 rfl 1 rfl ?_
    refine r_cvP (rm' := rmX8_shape) C mX8_shape vX8_shape k411 [aI l1] [aP x4, aP x3] rfl rfl (Nat.le_of_ble_eq_true rfl) (by decide) ⟨Nat.zero_le _, Nat.zero_le _⟩ 0 0 rfl rfl dX10_allItemsFit_26 w (fun x6 h7 w => ?_)
    refine r_iload_n C dX10_allItemsFit_29 rfl 1 rfl ?_
    refine r_cvV (rm' := rmX4_prepare) C mX4_prepare vX4_prepare k637 [aP x4, aP x6, aI l1] [] rfl rfl (Nat.le_of_ble_eq_true rfl) (by decide) ⟨Nat.zero_le _, Nat.zero_le _⟩ 0 0 rfl rfl dX10_allItemsFit_30 w (fun h9 w => ?_)
    refine r_aload_n C dX10_allItemsFit_33 rfl 0 rfl ?_
    refine r_getP C fcX10 (f := 4) (by decide) rfl k312 dX10_allItemsFit_34 (w.mono fun x10 w => ?_)
    refine r_aload_n C dX10_allItemsFit_37 rfl 0 rfl ?_
    refine r_getP C fcX10 (f := 5) (by decide) rfl k313 dX10_allItemsFit_38 (w.mono fun x11 w => ?_)
    refine r_iload_n C dX10_allItemsFit_41 rfl 1 rfl ?_
    refine r_cvI (rm' := rmX8_x) C mX8_x vX8_x k409 [aI l1] [aP x10] rfl rfl (Nat.le_of_ble_eq_true rfl) (by decide) ⟨Nat.zero_le _, Nat.zero_le _⟩ 0 0 rfl rfl dX10_allItemsFit_42 w (fun x12 h13 w => ?_)
    refine r_aload_n C dX10_allItemsFit_45 rfl 0 rfl ?_
    refine r_getP C fcX10 (f := 5) (by decide) rfl k313 dX10_allItemsFit_46 (w.mono fun x14 w => ?_)
    refine r_iload_n C dX10_allItemsFit_49 rfl 1 rfl ?_
    refine r_cvI (rm' := rmX8_y) C mX8_y vX8_y k410 [aI l1] [aI x12, aP x10] rfl rfl (Nat.le_of_ble_eq_true rfl) (by decide) ⟨Nat.zero_le _, Nat.zero_le _⟩ 0 0 rfl rfl dX10_allItemsFit_50 w (fun x15 h16 w => ?_)
    refine r_cvI (rm' := rmX4_isFree) C mX4_isFree vX4_isFree k788 [aI x12, aI x15] [] rfl rfl (Nat.le_of_ble_eq_true rfl) (by decide) ⟨Nat.zero_le _, Nat.zero_le _⟩ 0 0 rfl rfl dX10_allItemsFit_53 w (fun x17 h18 w => ?_)
    refine r_if_ne C dX10_allItemsFit_56 (tgt := 61) rfl (fun hc => ?_) (fun hc => ?_)
    · have w := w.1 hc
      refine r_iinc C dX10_allItemsFit_61 1 rfl (v := 1) rfl (by decide) rfl ?_
      refine r_goto C dX10_allItemsFit_64 (tgt := 2) rfl ?_
      exact r_sub [1, 0] rfl (g2 h18 l0 (l1 + (1 : Int32)) w)
    · have w := w.2 hc
      refine r_iconst (v := 0) C dX10_allItemsFit_59 rfl ?_
      exact r_zret C D rfl (Or.inl rfl) (Nat.zero_le _) (Nat.zero_le _) dX10_allItemsFit_60 w
theorem lpX10_allItemsFit_2 {E : EV} {X : AX} {post : Option AV → AH → Prop} (C : Cb E X cX10_allItemsFit RX10 2 rmX10_allItemsFit) (D : Cr E X (some .boolean) rmX10_allItemsFit "allItemsFit" post) (I : Nat → AH → Option Nat → Int32 → Prop) (step : ∀ (z : Nat) (h : AH) (l0 : Option Nat) (l1 : Int32), I z h l0 l1 → PX10_allItemsFit_2 E post (fun h l0 l1 => ∃ z', z' < z ∧ I z' h l0 l1) h l0 l1) : ∀ (z : Nat) (h : AH) (l0 : Option Nat) (l1 : Int32), I z h l0 l1 → Go E X 2 0 0 2 [(0, aP l0), (1, aI l1)] [] h := by
  intro z
  induction z using Nat.strongRecOn with
  | _ z ih =>
    intro h l0 l1 hI
    exact bX10_allItemsFit_2 C D (fun h l0 l1 hJ => by obtain ⟨z', hz, hi⟩ := hJ; exact ih z' hz h l0 l1 hi) (step z h l0 l1 hI)
def PX10_allItemsFit_0 (E : EV) (post : Option AV → AH → Prop) (J2 : AH → Option Nat → Int32 → Prop) (h : AH) (l0 : Option Nat) : Prop :=
  J2 h l0 (0 : Int32)
theorem bX10_allItemsFit_0 {E : EV} {X : AX} {post : Option AV → AH → Prop} (C : Cb E X cX10_allItemsFit RX10 2 rmX10_allItemsFit) (D : Cr E X (some .boolean) rmX10_allItemsFit "allItemsFit" post) {J2 : AH → Option Nat → Int32 → Prop} (g2 : ∀ (h : AH) (l0 : Option Nat) (l1 : Int32), J2 h l0 l1 → Go E X 2 0 0 2 [(0, aP l0), (1, aI l1)] [] h) {h : AH} {l0 : Option Nat} (w : PX10_allItemsFit_0 E post J2 h l0) : Go E X 2 0 0 0 [(0, aP l0)] [] h := by
  unfold PX10_allItemsFit_0 at w
  refine r_iconst (v := 0) C dX10_allItemsFit_0 rfl ?_
  refine r_istore_n C dX10_allItemsFit_1 rfl (by decide) rfl ?_
  exact r_sub [1, 0] rfl (g2 h l0 (0 : Int32) w)
theorem eX10_allItemsFit {E : EV} {post : Option AV → AH → Prop} {h : AH} {l0 : Option Nat} {J2 : AH → Option Nat → Int32 → Prop} (g2 : ∀ X : AX, Cb E X cX10_allItemsFit RX10 2 rmX10_allItemsFit → Cr E X (some .boolean) rmX10_allItemsFit "allItemsFit" post → ∀ (h : AH) (l0 : Option Nat) (l1 : Int32), J2 h l0 l1 → Go E X 2 0 0 2 [(0, aP l0), (1, aI l1)] [] h) (w : PX10_allItemsFit_0 E post J2 h l0) : sX10_allItemsFit E [aP l0] h post := Spec.of RX10 rfl rfl (Nat.le_of_ble_eq_true rfl) fun X C D => bX10_allItemsFit_0 C D (g2 X C D) w
theorem dX10_appendCharacter_0 : decode cX10_appendCharacter 0 = .ok (.iload_n 1, 1) := by decide +kernel
theorem dX10_appendCharacter_1 : decode cX10_appendCharacter 1 = .ok (.ifCond .lt 10, 3) := by decide +kernel
theorem dX10_appendCharacter_4 : decode cX10_appendCharacter 4 = .ok (.iload_n 1, 1) := by decide +kernel
theorem dX10_appendCharacter_5 : decode cX10_appendCharacter 5 = .ok (.sipush 255, 3) := by decide +kernel
theorem dX10_appendCharacter_8 : decode cX10_appendCharacter 8 = .ok (.if_icmp .le 6, 3) := by decide +kernel
theorem dX10_appendCharacter_11 : decode cX10_appendCharacter 11 = .ok (.ldc 88, 2) := by decide +kernel
theorem dX10_appendCharacter_13 : decode cX10_appendCharacter 13 = .ok (.ireturn, 1) := by decide +kernel
theorem dX10_appendCharacter_14 : decode cX10_appendCharacter 14 = .ok (.aload_n 0, 1) := by decide +kernel
theorem dX10_appendCharacter_15 : decode cX10_appendCharacter 15 = .ok (.getfield 13, 3) := by decide +kernel
theorem dX10_appendCharacter_18 : decode cX10_appendCharacter 18 = .ok (.getfield 89, 3) := by decide +kernel
theorem dX10_appendCharacter_21 : decode cX10_appendCharacter 21 = .ok (.sipush 150, 3) := by decide +kernel
theorem dX10_appendCharacter_24 : decode cX10_appendCharacter 24 = .ok (.if_icmp .lt 6, 3) := by decide +kernel
theorem dX10_appendCharacter_27 : decode cX10_appendCharacter 27 = .ok (.ldc 93, 2) := by decide +kernel
theorem dX10_appendCharacter_29 : decode cX10_appendCharacter 29 = .ok (.ireturn, 1) := by decide +kernel
theorem dX10_appendCharacter_30 : decode cX10_appendCharacter 30 = .ok (.aload_n 0, 1) := by decide +kernel
theorem dX10_appendCharacter_31 : decode cX10_appendCharacter 31 = .ok (.getfield 13, 3) := by decide +kernel
theorem dX10_appendCharacter_34 : decode cX10_appendCharacter 34 = .ok (.iload_n 1, 1) := by decide +kernel
theorem dX10_appendCharacter_35 : decode cX10_appendCharacter 35 = .ok (.invokevirtual 94, 3) := by decide +kernel
theorem dX10_appendCharacter_38 : decode cX10_appendCharacter 38 = .ok (.aload_n 0, 1) := by decide +kernel
theorem dX10_appendCharacter_39 : decode cX10_appendCharacter 39 = .ok (.getfield 13, 3) := by decide +kernel
theorem dX10_appendCharacter_42 : decode cX10_appendCharacter 42 = .ok (.getfield 89, 3) := by decide +kernel
theorem dX10_appendCharacter_45 : decode cX10_appendCharacter 45 = .ok (.ireturn, 1) := by decide +kernel
abbrev rmX10_appendCharacter : Room := { frames := 1, cells := 0, slots := 0, locals := 40 }
abbrev sX10_appendCharacter (E : EV) : List AV → AH → (Option AV → AH → Prop) → Prop := Spec E yX10_appendCharacter cX10_appendCharacter 2 (some .int) rmX10_appendCharacter
theorem mX10_appendCharacter : Mt yX10_appendCharacter cX10_appendCharacter 2 (some .int) 1 := ⟨k681, k1, by decide +kernel⟩
theorem vX10_appendCharacter : MtV yX10_appendCharacter 10 := ⟨k679, k680, by decide, (RX10, TX10, 12), rfl, rfl⟩
def PX10_appendCharacter_0 (E : EV) (post : Option AV → AH → Prop) (h : AH) (l0 : Option Nat) (l1 : Int32) : Prop :=
  (l1 < 0 → post (some (aI (-1000001 : Int32))) h) ∧ (¬ l1 < 0 → (l1 ≤ (255 : Int32) → rdP h l0 10 0 fun x1 => rdI h x1 9 1 fun x2 => (x2 < (150 : Int32) → rdP h l0 10 0 fun x3 => CV (sX9_append E) x3 9 [aI l1] h (kV fun h5 => rdP h5 l0 10 0 fun x6 => rdI h5 x6 9 1 fun x7 => post (some (aI x7)) h5)) ∧ (¬ x2 < (150 : Int32) → post (some (aI (-1000003 : Int32))) h)) ∧ (¬ l1 ≤ (255 : Int32) → post (some (aI (-1000001 : Int32))) h))
theorem bX10_appendCharacter_0 {E : EV} {X : AX} {post : Option AV → AH → Prop} (C : Cb E X cX10_appendCharacter RX10 2 rmX10_appendCharacter) (D : Cr E X (some .int) rmX10_appendCharacter "appendCharacter" post) {h : AH} {l0 : Option Nat} {l1 : Int32} (w : PX10_appendCharacter_0 E post h l0 l1) : Go E X 2 0 0 0 [(0, aP l0), (1, aI l1)] [] h := by
  unfold PX10_appendCharacter_0 at w
  refine r_iload_n C dX10_appendCharacter_0 rfl 1 rfl ?_
  refine r_if_lt C dX10_appendCharacter_1 (tgt := 11) rfl (fun hc => ?_) (fun hc => ?_)
  · have w := w.1 hc
    refine r_ldc (v := -1000001) C dX10_appendCharacter_11 k349 ?_
    exact r_iret C D rfl (Nat.zero_le _) (Nat.zero_le _) dX10_appendCharacter_13 w
  · have w := w.2 hc
    refine r_iload_n C dX10_appendCharacter_4 rfl 1 rfl ?_
    refine r_sipush (v := 255) C dX10_appendCharacter_5 rfl ?_
    refine r_icmp_le C dX10_appendCharacter_8 (tgt := 14) rfl (fun hc => ?_) (fun hc => ?_)
    · have w := w.1 hc
      refine r_aload_n C dX10_appendCharacter_14 rfl 0 rfl ?_
      refine r_getP C fcX10 (f := 0) (by decide) rfl k308 dX10_appendCharacter_15 (w.mono fun x1 w => ?_)
      refine r_getI C fcX9 (f := 1) (by decide) rfl k75 dX10_appendCharacter_18 (w.mono fun x2 w => ?_)
      refine r_sipush (v := 150) C dX10_appendCharacter_21 rfl ?_
      refine r_icmp_lt C dX10_appendCharacter_24 (tgt := 30) rfl (fun hc => ?_) (fun hc => ?_)
      · have w := w.1 hc
        refine r_aload_n C dX10_appendCharacter_30 rfl 0 rfl ?_
        refine r_getP C fcX10 (f := 0) (by decide) rfl k308 dX10_appendCharacter_31 (w.mono fun x3 w => ?_)
        refine r_iload_n C dX10_appendCharacter_34 rfl 1 rfl ?_
        refine r_cvV (rm' := rmX9_append) C mX9_append vX9_append k683 [aI l1] [] rfl rfl (Nat.le_of_ble_eq_true rfl) (by decide) ⟨Nat.zero_le _, Nat.zero_le _⟩ 0 0 rfl rfl dX10_appendCharacter_35 w (fun h5 w => ?_)
        refine r_aload_n C dX10_appendCharacter_38 rfl 0 rfl ?_
        refine r_getP C fcX10 (f := 0) (by decide) rfl k308 dX10_appendCharacter_39 (w.mono fun x6 w => ?_)
        refine r_getI C fcX9 (f := 1) (by decide) rfl k75 dX10_appendCharacter_42 (w.mono fun x7 w => ?_)
        exact r_iret C D rfl (Nat.zero_le _) (Nat.zero_le _) dX10_appendCharacter_45 w
      · have w := w.2 hc
        refine r_ldc (v := -1000003) C dX10_appendCharacter_27 k682 ?_
        exact r_iret C D rfl (Nat.zero_le _) (Nat.zero_le _) dX10_appendCharacter_29 w
    · have w := w.2 hc
      refine r_ldc (v := -1000001) C dX10_appendCharacter_11 k349 ?_
      exact r_iret C D rfl (Nat.zero_le _) (Nat.zero_le _) dX10_appendCharacter_13 w
theorem eX10_appendCharacter {E : EV} {post : Option AV → AH → Prop} {h : AH} {l0 : Option Nat} {l1 : Int32} (w : PX10_appendCharacter_0 E post h l0 l1) : sX10_appendCharacter E [aP l0, aI l1] h post := Spec.of RX10 rfl rfl (Nat.le_of_ble_eq_true rfl) fun X C D => bX10_appendCharacter_0 C D w
theorem dX10_bestTurns_0 : decode cX10_bestTurns 0 = .ok (.iconst 4, 1) := by decide +kernel
theorem dX10_bestTurns_1 : decode cX10_bestTurns 1 = .ok (.istore_n 2, 1) := by decide +kernel
theorem dX10_bestTurns_2 : decode cX10_bestTurns 2 = .ok (.iconst 0, 1) := by decide +kernel
theorem dX10_bestTurns_3 : decode cX10_bestTurns 3 = .ok (.istore_n 3, 1) := by decide +kernel
theorem dX10_bestTurns_4 : decode cX10_bestTurns 4 = .ok (.iconst 0, 1) := by decide +kernel
theorem dX10_bestTurns_5 : decode cX10_bestTurns 5 = .ok (.istore 4, 2) := by decide +kernel
theorem dX10_bestTurns_7 : decode cX10_bestTurns 7 = .ok (.iconst 0, 1) := by decide +kernel
theorem dX10_bestTurns_8 : decode cX10_bestTurns 8 = .ok (.istore 5, 2) := by decide +kernel
theorem dX10_bestTurns_10 : decode cX10_bestTurns 10 = .ok (.iload 5, 2) := by decide +kernel
theorem dX10_bestTurns_12 : decode cX10_bestTurns 12 = .ok (.iconst 4, 1) := by decide +kernel
theorem dX10_bestTurns_13 : decode cX10_bestTurns 13 = .ok (.if_icmp .ge 113, 3) := by decide +kernel
theorem dX10_bestTurns_16 : decode cX10_bestTurns 16 = .ok (.aload_n 0, 1) := by decide +kernel
theorem dX10_bestTurns_17 : decode cX10_bestTurns 17 = .ok (.getfield 73, 3) := by decide +kernel
theorem dX10_bestTurns_20 : decode cX10_bestTurns 20 = .ok (.aload_n 1, 1) := by decide +kernel
theorem dX10_bestTurns_21 : decode cX10_bestTurns 21 = .ok (.iload 5, 2) := by decide +kernel
theorem dX10_bestTurns_23 : decode cX10_bestTurns 23 = .ok (.invokevirtual 244, 3) := by decide +kernel
theorem dX10_bestTurns_26 : decode cX10_bestTurns 26 = .ok (.aload_n 0, 1) := by decide +kernel
theorem dX10_bestTurns_27 : decode cX10_bestTurns 27 = .ok (.getfield 43, 3) := by decide +kernel
theorem dX10_bestTurns_30 : decode cX10_bestTurns 30 = .ok (.aload_n 0, 1) := by decide +kernel
theorem dX10_bestTurns_31 : decode cX10_bestTurns 31 = .ok (.getfield 52, 3) := by decide +kernel
theorem dX10_bestTurns_34 : decode cX10_bestTurns 34 = .ok (.aload_n 0, 1) := by decide +kernel
theorem dX10_bestTurns_35 : decode cX10_bestTurns 35 = .ok (.getfield 73, 3) := by decide +kernel
theorem dX10_bestTurns_38 : decode cX10_bestTurns 38 = .ok (.iconst (-1), 1) := by decide +kernel
theorem dX10_bestTurns_39 : decode cX10_bestTurns 39 = .ok (.invokevirtual 263, 3) := by decide +kernel
theorem dX10_bestTurns_42 : decode cX10_bestTurns 42 = .ok (.aload_n 0, 1) := by decide +kernel
theorem dX10_bestTurns_43 : decode cX10_bestTurns 43 = .ok (.getfield 43, 3) := by decide +kernel
theorem dX10_bestTurns_46 : decode cX10_bestTurns 46 = .ok (.invokevirtual 338, 3) := by decide +kernel
theorem dX10_bestTurns_49 : decode cX10_bestTurns 49 = .ok (.ifCond .eq 71, 3) := by decide +kernel
theorem dX10_bestTurns_52 : decode cX10_bestTurns 52 = .ok (.aload_n 0, 1) := by decide +kernel
theorem dX10_bestTurns_53 : decode cX10_bestTurns 53 = .ok (.getfield 43, 3) := by decide +kernel
theorem dX10_bestTurns_56 : decode cX10_bestTurns 56 = .ok (.getfield 344, 3) := by decide +kernel
theorem dX10_bestTurns_59 : decode cX10_bestTurns 59 = .ok (.aload_n 0, 1) := by decide +kernel
theorem dX10_bestTurns_60 : decode cX10_bestTurns 60 = .ok (.getfield 73, 3) := by decide +kernel
theorem dX10_bestTurns_63 : decode cX10_bestTurns 63 = .ok (.getfield 347, 3) := by decide +kernel
theorem dX10_bestTurns_66 : decode cX10_bestTurns 66 = .ok (.iadd, 1) := by decide +kernel
theorem dX10_bestTurns_67 : decode cX10_bestTurns 67 = .ok (.istore 6, 2) := by decide +kernel
theorem dX10_bestTurns_69 : decode cX10_bestTurns 69 = .ok (.aload_n 0, 1) := by decide +kernel
theorem dX10_bestTurns_70 : decode cX10_bestTurns 70 = .ok (.getfield 43, 3) := by decide +kernel
theorem dX10_bestTurns_73 : decode cX10_bestTurns 73 = .ok (.getfield 341, 3) := by decide +kernel
theorem dX10_bestTurns_76 : decode cX10_bestTurns 76 = .ok (.aload_n 0, 1) := by decide +kernel
theorem dX10_bestTurns_77 : decode cX10_bestTurns 77 = .ok (.getfield 73, 3) := by decide +kernel
theorem dX10_bestTurns_80 : decode cX10_bestTurns 80 = .ok (.getfield 350, 3) := by decide +kernel
theorem dX10_bestTurns_83 : decode cX10_bestTurns 83 = .ok (.iadd, 1) := by decide +kernel
theorem dX10_bestTurns_84 : decode cX10_bestTurns 84 = .ok (.istore 7, 2) := by decide +kernel
theorem dX10_bestTurns_86 : decode cX10_bestTurns 86 = .ok (.iload_n 2, 1) := by decide +kernel
theorem dX10_bestTurns_87 : decode cX10_bestTurns 87 = .ok (.iconst 4, 1) := by decide +kernel
theorem dX10_bestTurns_88 : decode cX10_bestTurns 88 = .ok (.if_icmp .eq 22, 3) := by decide +kernel
theorem dX10_bestTurns_91 : decode cX10_bestTurns 91 = .ok (.iload 6, 2) := by decide +kernel
theorem dX10_bestTurns_93 : decode cX10_bestTurns 93 = .ok (.iload_n 3, 1) := by decide +kernel
theorem dX10_bestTurns_94 : decode cX10_bestTurns 94 = .ok (.if_icmp .lt 16, 3) := by decide +kernel
theorem dX10_bestTurns_97 : decode cX10_bestTurns 97 = .ok (.iload 6, 2) := by decide +kernel
theorem dX10_bestTurns_99 : decode cX10_bestTurns 99 = .ok (.iload_n 3, 1) := by decide +kernel
theorem dX10_bestTurns_100 : decode cX10_bestTurns 100 = .ok (.if_icmp .ne 20, 3) := by decide +kernel
theorem dX10_bestTurns_103 : decode cX10_bestTurns 103 = .ok (.iload 7, 2) := by decide +kernel
theorem dX10_bestTurns_105 : decode cX10_bestTurns 105 = .ok (.iload 4, 2) := by decide +kernel
theorem dX10_bestTurns_107 : decode cX10_bestTurns 107 = .ok (.if_icmp .ge 13, 3) := by decide +kernel
theorem dX10_bestTurns_110 : decode cX10_bestTurns 110 = .ok (.iload 5, 2) := by decide +kernel
theorem dX10_bestTurns_112 : decode cX10_bestTurns 112 = .ok (.istore_n 2, 1) := by decide +kernel
theorem dX10_bestTurns_113 : decode cX10_bestTurns 113 = .ok (.iload 6, 2) := by decide +kernel
theorem dX10_bestTurns_115 : decode cX10_bestTurns 115 = .ok (.istore_n 3, 1) := by decide +kernel
theorem dX10_bestTurns_116 : decode cX10_bestTurns 116 = .ok (.iload 7, 2) := by decide +kernel
theorem dX10_bestTurns_118 : decode cX10_bestTurns 118 = .ok (.istore 4, 2) := by decide +kernel
theorem dX10_bestTurns_120 : decode cX10_bestTurns 120 = .ok (.iinc 5 1, 3) := by decide +kernel
theorem dX10_bestTurns_123 : decode cX10_bestTurns 123 = .ok (.goto (-113), 3) := by decide +kernel
theorem dX10_bestTurns_126 : decode cX10_bestTurns 126 = .ok (.iload_n 2, 1) := by decide +kernel
theorem dX10_bestTurns_127 : decode cX10_bestTurns 127 = .ok (.ireturn, 1) := by decide +kernel
abbrev rmX10_bestTurns : Room := { frames := 5, cells := 0, slots := 0, locals := 200 }
abbrev sX10_bestTurns (E : EV) : List AV → AH → (Option AV → AH → Prop) → Prop := Spec E yX10_bestTurns cX10_bestTurns 8 (some .int) rmX10_bestTurns
theorem mX10_bestTurns : Mt yX10_bestTurns cX10_bestTurns 8 (some .int) 1 := ⟨k810, k1, by decide +kernel⟩
theorem vX10_bestTurns : MtV yX10_bestTurns 10 := ⟨k809, kp19, by decide, (RX10, TX10, 12), rfl, rfl⟩
def PX10_bestTurns_110 (E : EV) (post : Option AV → AH → Prop) (J10 : AH → Option Nat → Option Nat → Int32 → Int32 → Int32 → Int32 → Prop) (h : AH) (l0 : Option Nat) (l1 : Option Nat) (l5 : Int32) (l6 : Int32) (l7 : Int32) : Prop :=
  J10 h l0 l1 l5 l6 l7 (l5 + (1 : Int32))
theorem bX10_bestTurns_110 {E : EV} {X : AX} {post : Option AV → AH → Prop} (C : Cb E X cX10_bestTurns RX10 8 rmX10_bestTurns) (D : Cr E X (some .int) rmX10_bestTurns "bestTurns" post) {J10 : AH → Option Nat → Option Nat → Int32 → Int32 → Int32 → Int32 → Prop} (g10 : ∀ (h : AH) (l0 : Option Nat) (l1 : Option Nat) (l2 : Int32) (l3 : Int32) (l4 : Int32) (l5 : Int32), J10 h l0 l1 l2 l3 l4 l5 → Go E X 8 0 0 10 [(0, aP l0), (1, aP l1), (2, aI l2), (3, aI l3), (4, aI l4), (5, aI l5)] [] h) {h : AH} {l0 : Option Nat} {l1 : Option Nat} {l5 : Int32} {l6 : Int32} {l7 : Int32} (w : PX10_bestTurns_110 E post J10 h l0 l1 l5 l6 l7) : Go E X 8 0 0 110 [(0, aP l0), (1, aP l1), (5, aI l5), (6, aI l6), (7, aI l7)] [] h := by
  unfold PX10_bestTurns_110 at w
  refine r_iload C dX10_bestTurns_110 2 rfl ?_
  refine r_istore_n C dX10_bestTurns_112 rfl (by decide) rfl ?_
  refine r_iload C dX10_bestTurns_113 4 rfl ?_
  refine r_istore_n C dX10_bestTurns_115 rfl (by decide) rfl ?_
  refine r_iload C dX10_bestTurns_116 6 rfl ?_
  refine r_istore C dX10_bestTurns_118 (by decide) rfl ?_
  refine r_iinc C dX10_bestTurns_120 5 rfl (v := 1) rfl (by decide) rfl ?_
  refine r_goto C dX10_bestTurns_123 (tgt := 10) rfl ?_
  exact r_sub [4, 5, 3, 2, 1, 0] rfl (g10 h l0 l1 l5 l6 l7 (l5 + (1 : Int32)) w)
def PX10_bestTurns_10 (E : EV) (post : Option AV → AH → Prop) (J10 : AH → Option Nat → Option Nat → Int32 → Int32 → Int32 → Int32 → Prop) (h : AH) (l0 : Option Nat) (l1 : Option Nat) (l2 : Int32) (l3 : Int32) (l4 : Int32) (l5 : Int32) : Prop :=
  ((4 : Int32) ≤ l5 → post (some (aI l2)) h) ∧ (¬ (4 : Int32) ≤ l5 → rdP h l0 10 9 fun x1 => CV (sX6_setTurned E) x1 6 [aP l1, aI l5] h (kV fun h3 => rdP h3 l0 10 4 fun x4 => rdP h3 l0 10 5 fun x5 => rdP h3 l0 10 9 fun x6 => CV (sX4_prepare E) x4 4 [aP x5, aP x6, aI (-1 : Int32)] h3 (kV fun h8 => rdP h8 l0 10 4 fun x9 => CV (sX4_findBottomLeft E) x9 4 [] h8 (kI fun x10 h11 => (x10 = 0 → J10 h11 l0 l1 l2 l3 l4 (l5 + (1 : Int32))) ∧ (¬ x10 = 0 → rdP h11 l0 10 4 fun x12 => rdI h11 x12 4 9 fun x13 => rdP h11 l0 10 9 fun x14 => rdI h11 x14 6 8 fun x15 => ∀ v16, v16 = (x13 + x15) → rdP h11 l0 10 4 fun x17 => rdI h11 x17 4 8 fun x18 => rdP h11 l0 10 9 fun x19 => rdI h11 x19 6 7 fun x20 => ∀ v21, v21 = (x18 + x20) → (l2 = (4 : Int32) → PX10_bestTurns_110 E post J10 h11 l0 l1 l5 v16 v21) ∧ (¬ l2 = (4 : Int32) → (v16 < l3 → PX10_bestTurns_110 E post J10 h11 l0 l1 l5 v16 v21) ∧ (¬ v16 < l3 → (¬ v16 = l3 → J10 h11 l0 l1 l2 l3 l4 (l5 + (1 : Int32))) ∧ (v16 = l3 → (l4 ≤ v21 → J10 h11 l0 l1 l2 l3 l4 (l5 + (1 : Int32))) ∧ (¬ l4 ≤ v21 → PX10_bestTurns_110 E post J10 h11 l0 l1 l5 v16 v21)))))))))
theorem bX10_bestTurns_10 {E : EV} {X : AX} {post : Option AV → AH → Prop} (C : Cb E X cX10_bestTurns RX10 8 rmX10_bestTurns) (D : Cr E X (some .int) rmX10_bestTurns "bestTurns" post) {J10 : AH → Option Nat → Option Nat → Int32 → Int32 → Int32 → Int32 → Prop} (g10 : ∀ (h : AH) (l0 : Option Nat) (l1 : Option Nat) (l2 : Int32) (l3 : Int32) (l4 : Int32) (l5 : Int32), J10 h l0 l1 l2 l3 l4 l5 → Go E X 8 0 0 10 [(0, aP l0), (1, aP l1), (2, aI l2), (3, aI l3), (4, aI l4), (5, aI l5)] [] h) {h : AH} {l0 : Option Nat} {l1 : Option Nat} {l2 : Int32} {l3 : Int32} {l4 : Int32} {l5 : Int32} (w : PX10_bestTurns_10 E post J10 h l0 l1 l2 l3 l4 l5) : Go E X 8 0 0 10 [(0, aP l0), (1, aP l1), (2, aI l2), (3, aI l3), (4, aI l4), (5, aI l5)] [] h := by
  unfold PX10_bestTurns_10 at w
  refine r_iload C dX10_bestTurns_10 5 rfl ?_
  refine r_iconst (v := 4) C dX10_bestTurns_12 rfl ?_
  refine r_icmp_ge C dX10_bestTurns_13 (tgt := 126) rfl (fun hc => ?_) (fun hc => ?_)
  · have w := w.1 hc
    refine r_iload_n C dX10_bestTurns_126 rfl 2 rfl ?_
    exact r_iret C D rfl (Nat.zero_le _) (Nat.zero_le _) dX10_bestTurns_127 w
  · have w := w.2 hc
    refine r_aload_n C dX10_bestTurns_16 rfl 0 rfl ?_
    refine r_getP C fcX10 (f := 9) (by decide) rfl k317 dX10_bestTurns_17 (w.mono fun x1 w => ?_)
    refine r_aload_n C dX10_bestTurns_20 rfl 1 rfl ?_
    refine r_iload C dX10_bestTurns_21 5 rfl ?_
    refine r_cvV (rm' := rmX6_setTurned) C mX6_setTurned vX6_setTurned k762 [aP l1, aI l5] [] rfl rfl (Nat.le_of_ble_eq_true rfl) (by decide) ⟨Nat.zero_le _, Nat.zero_le _⟩ 0 0 rfl rfl dX10_bestTurns_23 w (fun h3 w => ?_)
    refine r_aload_n C dX10_bestTurns_26 rfl 0 rfl ?_
    refine r_getP C fcX10 (f := 4) (by decide) rfl k312 dX10_bestTurns_27 (w.mono fun x4 w => ?_)
    refine r_aload_n C dX10_bestTurns_30 rfl 0 rfl ?_
    refine r_getP C fcX10 (f := 5) (by decide) rfl k313 dX10_bestTurns_31 (w.mono fun x5 w => ?_)
    refine r_aload_n C dX10_bestTurns_34 rfl 0 rfl ?_
    refine r_getP C fcX10 (f := 9) (by decide) rfl k317 dX10_bestTurns_35 (w.mono fun x6 w => ?_)
    refine r_iconst (v := -1) C dX10_bestTurns_38 rfl ?_
    refine r_cvV (rm' := rmX4_prepare) C mX4_prepare vX4_prepare k637 [aP x5, aP x6, aI (-1 : Int32)] [] rfl rfl (Nat.le_of_ble_eq_true rfl) (by decide) ⟨Nat.zero_le _, Nat.zero_le _⟩ 0 0 rfl rfl dX10_bestTurns_39 w (fun h8 w => ?_)
    refine r_aload_n C dX10_bestTurns_42 rfl 0 rfl ?_
    refine r_getP C fcX10 (f := 4) (by decide) rfl k312 dX10_bestTurns_43 (w.mono fun x9 w => ?_)
    refine r_cvI (rm' := rmX4_findBottomLeft) C mX4_findBottomLeft vX4_findBottomLeft k811 [] [] rfl rfl (Nat.le_of_ble_eq_true rfl) (by decide) ⟨Nat.zero_le _, Nat.zero_le _⟩ 0 0 rfl rfl dX10_bestTurns_46 w (fun x10 h11 w => ?_)
    refine r_if_eq C dX10_bestTurns_49 (tgt := 120) rfl (fun hc => ?_) (fun hc => ?_)
    · have w := w.1 hc
      refine r_iinc C dX10_bestTurns_120 5 rfl (v := 1) rfl (by decide) rfl ?_
      refine r_goto C dX10_bestTurns_123 (tgt := 10) rfl ?_
      exact r_sub [1, 2, 3, 4, 5, 0] rfl (g10 h11 l0 l1 l2 l3 l4 (l5 + (1 : Int32)) w)
    · have w := w.2 hc
      refine r_aload_n C dX10_bestTurns_52 rfl 0 rfl ?_
      refine r_getP C fcX10 (f := 4) (by decide) rfl k312 dX10_bestTurns_53 (w.mono fun x12 w => ?_)
      refine r_getI C fcX4 (f := 9) (by decide) rfl k220 dX10_bestTurns_56 (w.mono fun x13 w => ?_)
      refine r_aload_n C dX10_bestTurns_59 rfl 0 rfl ?_
      refine r_getP C fcX10 (f := 9) (by decide) rfl k317 dX10_bestTurns_60 (w.mono fun x14 w => ?_)
      refine r_getI C fcX6 (f := 8) (by decide) rfl k46 dX10_bestTurns_63 (w.mono fun x15 w => ?_)
      refine r_iadd C dX10_bestTurns_66 ?_
      refine r_istore C dX10_bestTurns_67 (by decide) rfl ?_
      have w := w _ rfl
      skip
      refine r_aload_n C dX10_bestTurns_69 rfl 1 rfl ?_
      refine r_getP C fcX10 (f := 4) (by decide) rfl k312 dX10_bestTurns_70 (w.mono fun x17 w => ?_)
      refine r_getI C fcX4 (f := 8) (by decide) rfl k218 dX10_bestTurns_73 (w.mono fun x18 w => ?_)
      refine r_aload_n C dX10_bestTurns_76 rfl 1 rfl ?_
      refine r_getP C fcX10 (f := 9) (by decide) rfl k317 dX10_bestTurns_77 (w.mono fun x19 w => ?_)
      refine r_getI C fcX6 (f := 7) (by decide) rfl k43 dX10_bestTurns_80 (w.mono fun x20 w => ?_)
      refine r_iadd C dX10_bestTurns_83 ?_
      refine r_istore C dX10_bestTurns_84 (by decide) rfl ?_
      have w := w _ rfl
      skip
      refine r_iload_n C dX10_bestTurns_86 rfl 4 rfl ?_
      refine r_iconst (v := 4) C dX10_bestTurns_87 rfl ?_
      refine r_icmp_eq C dX10_bestTurns_88 (tgt := 110) rfl (fun hc => ?_) (fun hc => ?_)
      · have w := w.1 hc
        exact r_sub [2, 3, 7, 1, 0] rfl (bX10_bestTurns_110 C D g10 w)
      · have w := w.2 hc
        refine r_iload C dX10_bestTurns_91 1 rfl ?_
        refine r_iload_n C dX10_bestTurns_93 rfl 5 rfl ?_
        refine r_icmp_lt C dX10_bestTurns_94 (tgt := 110) rfl (fun hc => ?_) (fun hc => ?_)
        · have w := w.1 hc
          exact r_sub [2, 3, 7, 1, 0] rfl (bX10_bestTurns_110 C D g10 w)
        · have w := w.2 hc
          refine r_iload C dX10_bestTurns_97 1 rfl ?_
          refine r_iload_n C dX10_bestTurns_99 rfl 5 rfl ?_
          refine r_icmp_ne C dX10_bestTurns_100 (tgt := 120) rfl (fun hc => ?_) (fun hc => ?_)
          · have w := w.1 hc
            refine r_iinc C dX10_bestTurns_120 7 rfl (v := 1) rfl (by decide) rfl ?_
            refine r_goto C dX10_bestTurns_123 (tgt := 10) rfl ?_
            exact r_sub [3, 4, 5, 6, 7, 0] rfl (g10 h11 l0 l1 l2 l3 l4 (l5 + (1 : Int32)) w)
          · have w := w.2 hc
            refine r_iload C dX10_bestTurns_103 0 rfl ?_
            refine r_iload C dX10_bestTurns_105 6 rfl ?_
            refine r_icmp_ge C dX10_bestTurns_107 (tgt := 120) rfl (fun hc => ?_) (fun hc => ?_)
            · have w := w.1 hc
              refine r_iinc C dX10_bestTurns_120 7 rfl (v := 1) rfl (by decide) rfl ?_
              refine r_goto C dX10_bestTurns_123 (tgt := 10) rfl ?_
              exact r_sub [3, 4, 5, 6, 7, 0] rfl (g10 h11 l0 l1 l2 l3 l4 (l5 + (1 : Int32)) w)
            · have w := w.2 hc
              exact r_sub [2, 3, 7, 1, 0] rfl (bX10_bestTurns_110 C D g10 w)
theorem lpX10_bestTurns_10 {E : EV} {X : AX} {post : Option AV → AH → Prop} (C : Cb E X cX10_bestTurns RX10 8 rmX10_bestTurns) (D : Cr E X (some .int) rmX10_bestTurns "bestTurns" post) (I : Nat → AH → Option Nat → Option Nat → Int32 → Int32 → Int32 → Int32 → Prop) (step : ∀ (z : Nat) (h : AH) (l0 : Option Nat) (l1 : Option Nat) (l2 : Int32) (l3 : Int32) (l4 : Int32) (l5 : Int32), I z h l0 l1 l2 l3 l4 l5 → PX10_bestTurns_10 E post (fun h l0 l1 l2 l3 l4 l5 => ∃ z', z' < z ∧ I z' h l0 l1 l2 l3 l4 l5) h l0 l1 l2 l3 l4 l5) : ∀ (z : Nat) (h : AH) (l0 : Option Nat) (l1 : Option Nat) (l2 : Int32) (l3 : Int32) (l4 : Int32) (l5 : Int32), I z h l0 l1 l2 l3 l4 l5 → Go E X 8 0 0 10 [(0, aP l0), (1, aP l1), (2, aI l2), (3, aI l3), (4, aI l4), (5, aI l5)] [] h := by
  intro z
  induction z using Nat.strongRecOn with
  | _ z ih =>
    intro h l0 l1 l2 l3 l4 l5 hI
    exact bX10_bestTurns_10 C D (fun h l0 l1 l2 l3 l4 l5 hJ => by obtain ⟨z', hz, hi⟩ := hJ; exact ih z' hz h l0 l1 l2 l3 l4 l5 hi) (step z h l0 l1 l2 l3 l4 l5 hI)
def PX10_bestTurns_0 (E : EV) (post : Option AV → AH → Prop) (J10 : AH → Option Nat → Option Nat → Int32 → Int32 → Int32 → Int32 → Prop) (h : AH) (l0 : Option Nat) (l1 : Option Nat) : Prop :=
  J10 h l0 l1 (4 : Int32) (0 : Int32) (0 : Int32) (0 : Int32)
theorem bX10_bestTurns_0 {E : EV} {X : AX} {post : Option AV → AH → Prop} (C : Cb E X cX10_bestTurns RX10 8 rmX10_bestTurns) (D : Cr E X (some .int) rmX10_bestTurns "bestTurns" post) {J10 : AH → Option Nat → Option Nat → Int32 → Int32 → Int32 → Int32 → Prop} (g10 : ∀ (h : AH) (l0 : Option Nat) (l1 : Option Nat) (l2 : Int32) (l3 : Int32) (l4 : Int32) (l5 : Int32), J10 h l0 l1 l2 l3 l4 l5 → Go E X 8 0 0 10 [(0, aP l0), (1, aP l1), (2, aI l2), (3, aI l3), (4, aI l4), (5, aI l5)] [] h) {h : AH} {l0 : Option Nat} {l1 : Option Nat} (w : PX10_bestTurns_0 E post J10 h l0 l1) : Go E X 8 0 0 0 [(0, aP l0), (1, aP l1)] [] h := by
  unfold PX10_bestTurns_0 at w
  refine r_iconst (v := 4) C dX10_bestTurns_0 rfl ?_
  refine r_istore_n C dX10_bestTurns_1 rfl (by decide) rfl ?_
  refine r_iconst (v := 0) C dX10_bestTurns_2 rfl ?_
  refine r_istore_n C dX10_bestTurns_3 rfl (by decide) rfl ?_
  refine r_iconst (v := 0) C dX10_bestTurns_4 rfl ?_
  refine r_istore C dX10_bestTurns_5 (by decide) rfl ?_
  refine r_iconst (v := 0) C dX10_bestTurns_7 rfl ?_
  refine r_istore C dX10_bestTurns_8 (by decide) rfl ?_
  exact r_sub [4, 5, 3, 2, 1, 0] rfl (g10 h l0 l1 (4 : Int32) (0 : Int32) (0 : Int32) (0 : Int32) w)
theorem eX10_bestTurns {E : EV} {post : Option AV → AH → Prop} {h : AH} {l0 : Option Nat} {l1 : Option Nat} {J10 : AH → Option Nat → Option Nat → Int32 → Int32 → Int32 → Int32 → Prop} (g10 : ∀ X : AX, Cb E X cX10_bestTurns RX10 8 rmX10_bestTurns → Cr E X (some .int) rmX10_bestTurns "bestTurns" post → ∀ (h : AH) (l0 : Option Nat) (l1 : Option Nat) (l2 : Int32) (l3 : Int32) (l4 : Int32) (l5 : Int32), J10 h l0 l1 l2 l3 l4 l5 → Go E X 8 0 0 10 [(0, aP l0), (1, aP l1), (2, aI l2), (3, aI l3), (4, aI l4), (5, aI l5)] [] h) (w : PX10_bestTurns_0 E post J10 h l0 l1) : sX10_bestTurns E [aP l0, aP l1] h post := Spec.of RX10 rfl rfl (Nat.le_of_ble_eq_true rfl) fun X C D => bX10_bestTurns_0 C D (g10 X C D) w
theorem dX10_directionX_0 : decode cX10_directionX 0 = .ok (.iload_n 0, 1) := by decide +kernel
theorem dX10_directionX_1 : decode cX10_directionX 1 = .ok (.ifCond .lt 19, 3) := by decide +kernel
theorem dX10_directionX_4 : decode cX10_directionX 4 = .ok (.iload_n 0, 1) := by decide +kernel
theorem dX10_directionX_5 : decode cX10_directionX 5 = .ok (.getstatic 322, 3) := by decide +kernel
theorem dX10_directionX_8 : decode cX10_directionX 8 = .ok (.arraylength, 1) := by decide +kernel
theorem dX10_directionX_9 : decode cX10_directionX 9 = .ok (.if_icmp .ge 11, 3) := by decide +kernel
theorem dX10_directionX_12 : decode cX10_directionX 12 = .ok (.getstatic 322, 3) := by decide +kernel
theorem dX10_directionX_15 : decode cX10_directionX 15 = .ok (.iload_n 0, 1) := by decide +kernel
theorem dX10_directionX_16 : decode cX10_directionX 16 = .ok (.iaload, 1) := by decide +kernel
theorem dX10_directionX_17 : decode cX10_directionX 17 = .ok (.goto 4, 3) := by decide +kernel
theorem dX10_directionX_20 : decode cX10_directionX 20 = .ok (.iconst 0, 1) := by decide +kernel
theorem dX10_directionX_21 : decode cX10_directionX 21 = .ok (.ireturn, 1) := by decide +kernel
abbrev rmX10_directionX : Room := { frames := 0, cells := 0, slots := 0, locals := 0 }
abbrev sX10_directionX (E : EV) : List AV → AH → (Option AV → AH → Prop) → Prop := Spec E yX10_directionX cX10_directionX 1 (some .int) rmX10_directionX
theorem mX10_directionX : Mt yX10_directionX cX10_directionX 1 (some .int) 1 := ⟨k513, k1, by decide +kernel⟩
theorem vX10_directionX : MtS yX10_directionX := k512
def PX10_directionX_0 (E : EV) (post : Option AV → AH → Prop) (h : AH) (l0 : Int32) : Prop :=
  (l0 < 0 → post (some (aI (0 : Int32))) h) ∧ (¬ l0 < 0 → ((8 : Int32) ≤ l0 → post (some (aI (0 : Int32))) h) ∧ (¬ (8 : Int32) ≤ l0 → ¬ l0 < 0 ∧ l0.toNatClampNeg < 8 ∧ (post (some (aI (dirxF l0.toNatClampNeg))) h)))
theorem bX10_directionX_0 {E : EV} {X : AX} {post : Option AV → AH → Prop} (C : Cb E X cX10_directionX RX10 1 rmX10_directionX) (D : Cr E X (some .int) rmX10_directionX "directionX" post) {h : AH} {l0 : Int32} (w : PX10_directionX_0 E post h l0) : Go E X 1 0 0 0 [(0, aI l0)] [] h := by
  unfold PX10_directionX_0 at w
  refine r_iload_n C dX10_directionX_0 rfl 0 rfl ?_
  refine r_if_lt C dX10_directionX_1 (tgt := 20) rfl (fun hc => ?_) (fun hc => ?_)
  · have w := w.1 hc
    refine r_iconst (v := 0) C dX10_directionX_20 rfl ?_
    exact r_iret C D rfl (Nat.zero_le _) (Nat.zero_le _) dX10_directionX_21 w
  · have w := w.2 hc
    refine r_iload_n C dX10_directionX_4 rfl 0 rfl ?_
    refine r_stlen C (cb_sta (f := fun _ _ => True) C).1 k514 dX10_directionX_5 dX10_directionX_8 ?_
    refine r_icmp_ge C dX10_directionX_9 (tgt := 20) rfl (fun hc => ?_) (fun hc => ?_)
    · have w := w.1 hc
      refine r_iconst (v := 0) C dX10_directionX_20 rfl ?_
      exact r_iret C D rfl (Nat.zero_le _) (Nat.zero_le _) dX10_directionX_21 w
    · have w := w.2 hc
      refine r_stald (q := 0) C (cb_sta (f := fun _ _ => True) C).1 k514 dX10_directionX_12 dX10_directionX_15 dX10_directionX_16 rfl w.1 w.2.1 ?_
      have w := w.2.2
      refine r_goto C dX10_directionX_17 (tgt := 21) rfl ?_
      exact r_iret C D rfl (Nat.zero_le _) (Nat.zero_le _) dX10_directionX_21 w
theorem eX10_directionX {E : EV} {post : Option AV → AH → Prop} {h : AH} {l0 : Int32} (w : PX10_directionX_0 E post h l0) : sX10_directionX E [aI l0] h post := Spec.of RX10 rfl rfl (Nat.le_of_ble_eq_true rfl) fun X C D => bX10_directionX_0 C D w
theorem dX10_directionY_0 : decode cX10_directionY 0 = .ok (.iload_n 0, 1) := by decide +kernel
theorem dX10_directionY_1 : decode cX10_directionY 1 = .ok (.ifCond .lt 19, 3) := by decide +kernel
theorem dX10_directionY_4 : decode cX10_directionY 4 = .ok (.iload_n 0, 1) := by decide +kernel
theorem dX10_directionY_5 : decode cX10_directionY 5 = .ok (.getstatic 325, 3) := by decide +kernel
theorem dX10_directionY_8 : decode cX10_directionY 8 = .ok (.arraylength, 1) := by decide +kernel
theorem dX10_directionY_9 : decode cX10_directionY 9 = .ok (.if_icmp .ge 11, 3) := by decide +kernel
theorem dX10_directionY_12 : decode cX10_directionY 12 = .ok (.getstatic 325, 3) := by decide +kernel
theorem dX10_directionY_15 : decode cX10_directionY 15 = .ok (.iload_n 0, 1) := by decide +kernel
theorem dX10_directionY_16 : decode cX10_directionY 16 = .ok (.iaload, 1) := by decide +kernel
theorem dX10_directionY_17 : decode cX10_directionY 17 = .ok (.goto 4, 3) := by decide +kernel
theorem dX10_directionY_20 : decode cX10_directionY 20 = .ok (.iconst 0, 1) := by decide +kernel
theorem dX10_directionY_21 : decode cX10_directionY 21 = .ok (.ireturn, 1) := by decide +kernel
abbrev rmX10_directionY : Room := { frames := 0, cells := 0, slots := 0, locals := 0 }
abbrev sX10_directionY (E : EV) : List AV → AH → (Option AV → AH → Prop) → Prop := Spec E yX10_directionY cX10_directionY 1 (some .int) rmX10_directionY
theorem mX10_directionY : Mt yX10_directionY cX10_directionY 1 (some .int) 1 := ⟨k518, k1, by decide +kernel⟩
theorem vX10_directionY : MtS yX10_directionY := k517
def PX10_directionY_0 (E : EV) (post : Option AV → AH → Prop) (h : AH) (l0 : Int32) : Prop :=
  (l0 < 0 → post (some (aI (0 : Int32))) h) ∧ (¬ l0 < 0 → ((8 : Int32) ≤ l0 → post (some (aI (0 : Int32))) h) ∧ (¬ (8 : Int32) ≤ l0 → ¬ l0 < 0 ∧ l0.toNatClampNeg < 8 ∧ (post (some (aI (diryF l0.toNatClampNeg))) h)))
theorem bX10_directionY_0 {E : EV} {X : AX} {post : Option AV → AH → Prop} (C : Cb E X cX10_directionY RX10 1 rmX10_directionY) (D : Cr E X (some .int) rmX10_directionY "directionY" post) {h : AH} {l0 : Int32} (w : PX10_directionY_0 E post h l0) : Go E X 1 0 0 0 [(0, aI l0)] [] h := by
  unfold PX10_directionY_0 at w
  refine r_iload_n C dX10_directionY_0 rfl 0 rfl ?_
  refine r_if_lt C dX10_directionY_1 (tgt := 20) rfl (fun hc => ?_) (fun hc => ?_)
  · have w := w.1 hc
    refine r_iconst (v := 0) C dX10_directionY_20 rfl ?_
    exact r_iret C D rfl (Nat.zero_le _) (Nat.zero_le _) dX10_directionY_21 w
  · have w := w.2 hc
    refine r_iload_n C dX10_directionY_4 rfl 0 rfl ?_
    refine r_stlen C (cb_sta (f := fun _ _ => True) C).2 k519 dX10_directionY_5 dX10_directionY_8 ?_
    refine r_icmp_ge C dX10_directionY_9 (tgt := 20) rfl (fun hc => ?_) (fun hc => ?_)
    · have w := w.1 hc
      refine r_iconst (v := 0) C dX10_directionY_20 rfl ?_
      exact r_iret C D rfl (Nat.zero_le _) (Nat.zero_le _) dX10_directionY_21 w
    · have w := w.2 hc
      refine r_stald (q := 0) C (cb_sta (f := fun _ _ => True) C).2 k519 dX10_directionY_12 dX10_directionY_15 dX10_directionY_16 rfl w.1 w.2.1 ?_
      have w := w.2.2
      refine r_goto C dX10_directionY_17 (tgt := 21) rfl ?_
      exact r_iret C D rfl (Nat.zero_le _) (Nat.zero_le _) dX10_directionY_21 w
theorem eX10_directionY {E : EV} {post : Option AV → AH → Prop} {h : AH} {l0 : Int32} (w : PX10_directionY_0 E post h l0) : sX10_directionY E [aI l0] h post := Spec.of RX10 rfl rfl (Nat.le_of_ble_eq_true rfl) fun X C D => bX10_directionY_0 C D w
theorem dX10_blockersOf_0 : decode cX10_blockersOf 0 = .ok (.iload_n 2, 1) := by decide +kernel
theorem dX10_blockersOf_1 : decode cX10_blockersOf 1 = .ok (.invokestatic 171, 3) := by decide +kernel
theorem dX10_blockersOf_4 : decode cX10_blockersOf 4 = .ok (.istore_n 3, 1) := by decide +kernel
theorem dX10_blockersOf_5 : decode cX10_blockersOf 5 = .ok (.iload_n 2, 1) := by decide +kernel
theorem dX10_blockersOf_6 : decode cX10_blockersOf 6 = .ok (.invokestatic 174, 3) := by decide +kernel
theorem dX10_blockersOf_9 : decode cX10_blockersOf 9 = .ok (.istore 4, 2) := by decide +kernel
theorem dX10_blockersOf_11 : decode cX10_blockersOf 11 = .ok (.iconst 0, 1) := by decide +kernel
theorem dX10_blockersOf_12 : decode cX10_blockersOf 12 = .ok (.istore 5, 2) := by decide +kernel
theorem dX10_blockersOf_14 : decode cX10_blockersOf 14 = .ok (.iconst 0, 1) := by decide +kernel
theorem dX10_blockersOf_15 : decode cX10_blockersOf 15 = .ok (.istore 6, 2) := by decide +kernel
theorem dX10_blockersOf_17 : decode cX10_blockersOf 17 = .ok (.iload 6, 2) := by decide +kernel
theorem dX10_blockersOf_19 : decode cX10_blockersOf 19 = .ok (.aload_n 0, 1) := by decide +kernel
theorem dX10_blockersOf_20 : decode cX10_blockersOf 20 = .ok (.getfield 52, 3) := by decide +kernel
theorem dX10_blockersOf_23 : decode cX10_blockersOf 23 = .ok (.getfield 218, 3) := by decide +kernel
theorem dX10_blockersOf_26 : decode cX10_blockersOf 26 = .ok (.if_icmp .ge 98, 3) := by decide +kernel
theorem dX10_blockersOf_29 : decode cX10_blockersOf 29 = .ok (.aload_n 0, 1) := by decide +kernel
theorem dX10_blockersOf_30 : decode cX10_blockersOf 30 = .ok (.getfield 52, 3) := by decide +kernel
theorem dX10_blockersOf_33 : decode cX10_blockersOf 33 = .ok (.iload_n 1, 1) := by decide +kernel
theorem dX10_blockersOf_34 : decode cX10_blockersOf 34 = .ok (.invokevirtual 274, 3) := by decide +kernel
theorem dX10_blockersOf_37 : decode cX10_blockersOf 37 = .ok (.aload_n 0, 1) := by decide +kernel
theorem dX10_blockersOf_38 : decode cX10_blockersOf 38 = .ok (.getfield 52, 3) := by decide +kernel
theorem dX10_blockersOf_41 : decode cX10_blockersOf 41 = .ok (.iload 6, 2) := by decide +kernel
theorem dX10_blockersOf_43 : decode cX10_blockersOf 43 = .ok (.invokevirtual 274, 3) := by decide +kernel
theorem dX10_blockersOf_46 : decode cX10_blockersOf 46 = .ok (.isub, 1) := by decide +kernel
theorem dX10_blockersOf_47 : decode cX10_blockersOf 47 = .ok (.istore 7, 2) := by decide +kernel
theorem dX10_blockersOf_49 : decode cX10_blockersOf 49 = .ok (.aload_n 0, 1) := by decide +kernel
theorem dX10_blockersOf_50 : decode cX10_blockersOf 50 = .ok (.getfield 52, 3) := by decide +kernel
theorem dX10_blockersOf_53 : decode cX10_blockersOf 53 = .ok (.iload_n 1, 1) := by decide +kernel
theorem dX10_blockersOf_54 : decode cX10_blockersOf 54 = .ok (.invokevirtual 275, 3) := by decide +kernel
theorem dX10_blockersOf_57 : decode cX10_blockersOf 57 = .ok (.aload_n 0, 1) := by decide +kernel
theorem dX10_blockersOf_58 : decode cX10_blockersOf 58 = .ok (.getfield 52, 3) := by decide +kernel
theorem dX10_blockersOf_61 : decode cX10_blockersOf 61 = .ok (.iload 6, 2) := by decide +kernel
theorem dX10_blockersOf_63 : decode cX10_blockersOf 63 = .ok (.invokevirtual 275, 3) := by decide +kernel
theorem dX10_blockersOf_66 : decode cX10_blockersOf 66 = .ok (.isub, 1) := by decide +kernel
theorem dX10_blockersOf_67 : decode cX10_blockersOf 67 = .ok (.istore 8, 2) := by decide +kernel
theorem dX10_blockersOf_69 : decode cX10_blockersOf 69 = .ok (.iload 6, 2) := by decide +kernel
theorem dX10_blockersOf_71 : decode cX10_blockersOf 71 = .ok (.iload_n 1, 1) := by decide +kernel
theorem dX10_blockersOf_72 : decode cX10_blockersOf 72 = .ok (.if_icmp .eq 46, 3) := by decide +kernel
theorem dX10_blockersOf_75 : decode cX10_blockersOf 75 = .ok (.aload_n 0, 1) := by decide +kernel
theorem dX10_blockersOf_76 : decode cX10_blockersOf 76 = .ok (.getfield 36, 3) := by decide +kernel
theorem dX10_blockersOf_79 : decode cX10_blockersOf 79 = .ok (.aload_n 0, 1) := by decide +kernel
theorem dX10_blockersOf_80 : decode cX10_blockersOf 80 = .ok (.getfield 52, 3) := by decide +kernel
theorem dX10_blockersOf_83 : decode cX10_blockersOf 83 = .ok (.iload 6, 2) := by decide +kernel
theorem dX10_blockersOf_85 : decode cX10_blockersOf 85 = .ok (.invokevirtual 261, 3) := by decide +kernel
theorem dX10_blockersOf_88 : decode cX10_blockersOf 88 = .ok (.aload_n 0, 1) := by decide +kernel
theorem dX10_blockersOf_89 : decode cX10_blockersOf 89 = .ok (.getfield 52, 3) := by decide +kernel
theorem dX10_blockersOf_92 : decode cX10_blockersOf 92 = .ok (.iload_n 1, 1) := by decide +kernel
theorem dX10_blockersOf_93 : decode cX10_blockersOf 93 = .ok (.invokevirtual 261, 3) := by decide +kernel
theorem dX10_blockersOf_96 : decode cX10_blockersOf 96 = .ok (.iload 7, 2) := by decide +kernel
theorem dX10_blockersOf_98 : decode cX10_blockersOf 98 = .ok (.iload 8, 2) := by decide +kernel
theorem dX10_blockersOf_100 : decode cX10_blockersOf 100 = .ok (.iload_n 3, 1) := by decide +kernel
theorem dX10_blockersOf_101 : decode cX10_blockersOf 101 = .ok (.iload 4, 2) := by decide +kernel
theorem dX10_blockersOf_103 : decode cX10_blockersOf 103 = .ok (.invokevirtual 205, 3) := by decide +kernel
theorem dX10_blockersOf_106 : decode cX10_blockersOf 106 = .ok (.ifCond .eq 12, 3) := by decide +kernel
theorem dX10_blockersOf_109 : decode cX10_blockersOf 109 = .ok (.iload 5, 2) := by decide +kernel
theorem dX10_blockersOf_111 : decode cX10_blockersOf 111 = .ok (.iconst 1, 1) := by decide +kernel
theorem dX10_blockersOf_112 : decode cX10_blockersOf 112 = .ok (.iload 6, 2) := by decide +kernel
theorem dX10_blockersOf_114 : decode cX10_blockersOf 114 = .ok (.ishl, 1) := by decide +kernel
theorem dX10_blockersOf_115 : decode cX10_blockersOf 115 = .ok (.ior, 1) := by decide +kernel
theorem dX10_blockersOf_116 : decode cX10_blockersOf 116 = .ok (.istore 5, 2) := by decide +kernel
theorem dX10_blockersOf_118 : decode cX10_blockersOf 118 = .ok (.iinc 6 1, 3) := by decide +kernel
theorem dX10_blockersOf_121 : decode cX10_blockersOf 121 = .ok (.goto (-104), 3) := by decide +kernel
theorem dX10_blockersOf_124 : decode cX10_blockersOf 124 = .ok (.iload 5, 2) := by decide +kernel
theorem dX10_blockersOf_126 : decode cX10_blockersOf 126 = .ok (.ireturn, 1) := by decide +kernel
abbrev rmX10_blockersOf : Room := { frames := 5, cells := 0, slots := 0, locals := 200 }
abbrev sX10_blockersOf (E : EV) : List AV → AH → (Option AV → AH → Prop) → Prop := Spec E yX10_blockersOf cX10_blockersOf 9 (some .int) rmX10_blockersOf
theorem mX10_blockersOf : Mt yX10_blockersOf cX10_blockersOf 9 (some .int) 2 := ⟨k510, k1, by decide +kernel⟩
theorem vX10_blockersOf : MtV yX10_blockersOf 10 := ⟨k509, kp6, by decide, (RX10, TX10, 12), rfl, rfl⟩
def PX10_blockersOf_17 (E : EV) (post : Option AV → AH → Prop) (J17 : AH → Option Nat → Int32 → Int32 → Int32 → Int32 → Int32 → Prop) (h : AH) (l0 : Option Nat) (l1 : Int32) (l3 : Int32) (l4 : Int32) (l5 : Int32) (l6 : Int32) : Prop :=
  rdP h l0 10 5 fun x1 => rdI h x1 8 5 fun x2 => (x2 ≤ l6 → post (some (aI l5)) h) ∧ (¬ x2 ≤ l6 → rdP h l0 10 5 fun x3 => CV (sX8_x E) x3 8 [aI l1] h (kI fun x4 h5 => rdP h5 l0 10 5 fun x6 => CV (sX8_x E) x6 8 [aI l6] h5 (kI fun x7 h8 => ∀ v9, v9 = (x4 - x7) → rdP h8 l0 10 5 fun x10 => CV (sX8_y E) x10 8 [aI l1] h8 (kI fun x11 h12 => rdP h12 l0 10 5 fun x13 => CV (sX8_y E) x13 8 [aI l6] h12 (kI fun x14 h15 => ∀ v16, v16 = (x11 - x14) → (l6 = l1 → J17 h15 l0 l1 l3 l4 l5 (l6 + (1 : Int32))) ∧ (¬ l6 = l1 → rdP h15 l0 10 3 fun x17 => rdP h15 l0 10 5 fun x18 => CV (sX8_shape E) x18 8 [aI l6] h15 (kP fun x19 h20 => rdP h20 l0 10 5 fun x21 => CV (sX8_shape E) x21 8 [aI l1] h20 (kP fun x22 h23 => CV (sX3_isStopped E) x17 3 [aP x19, aP x22, aI v9, aI v16, aI l3, aI l4] h23 (kI fun x24 h25 => (x24 = 0 → J17 h25 l0 l1 l3 l4 l5 (l6 + (1 : Int32))) ∧ (¬ x24 = 0 → ∀ v26, v26 = (l5 ||| ((1 : Int32) <<< (l6 &&& 31))) → J17 h25 l0 l1 l3 l4 v26 (l6 + (1 : Int32))))))))))))
theorem bX10_blockersOf_17 {E : EV} {X : AX} {post : Option AV → AH → Prop} (C : Cb E X cX10_blockersOf RX10 9 rmX10_blockersOf) (D : Cr E X (some .int) rmX10_blockersOf "blockersOf" post) {J17 : AH → Option Nat → Int32 → Int32 → Int32 → Int32 → Int32 → Prop} (g17 : ∀ (h : AH) (l0 : Option Nat) (l1 : Int32) (l3 : Int32) (l4 : Int32) (l5 : Int32) (l6 : Int32), J17 h l0 l1 l3 l4 l5 l6 → Go E X 9 0 0 17 [(0, aP l0), (1, aI l1), (3, aI l3), (4, aI l4), (5, aI l5), (6, aI l6)] [] h) {h : AH} {l0 : Option Nat} {l1 : Int32} {l3 : Int32} {l4 : Int32} {l5 : Int32} {l6 : Int32} (w : PX10_blockersOf_17 E post J17 h l0 l1 l3 l4 l5 l6) : Go E X 9 0 0 17 [(0, aP l0), (1, aI l1), (3, aI l3), (4, aI l4), (5, aI l5), (6, aI l6)] [] h := by
  unfold PX10_blockersOf_17 at w
  refine r_iload C dX10_blockersOf_17 5 rfl ?_
  refine r_aload_n C dX10_blockersOf_19 rfl 0 rfl ?_
  refine r_getP C fcX10 (f := 5) (by decide) rfl k313 dX10_blockersOf_20 (w.mono fun x1 w => ?_)
  refine r_getI C fcX8 (f := 5) (by decide) rfl k258 dX10_blockersOf_23 (w.mono fun x2 w => ?_)
  refine r_icmp_ge C dX10_blockersOf_26 (tgt := 124) rfl (fun hc => ?_) (fun hc => ?_)
  · have w := w.1 hc
    refine r_iload C dX10_blockersOf_124 4 rfl ?_
    exact r_iret C D rfl (Nat.zero_le _) (Nat.zero_le _) dX10_blockersOf_126 w
  · have w := w.2 hc
    refine r_aload_n C dX10_blockersOf_29 rfl 0 rfl ?_
    refine r_getP C fcX10 (f := 5) (by decide) rfl k313 dX10_blockersOf_30 (w.mono fun x3 w => ?_)
    refine r_iload_n C dX10_blockersOf_33 rfl 1 rfl ?_
    refine r_cvI (rm' := rmX8_x) C mX8_x vX8_x k409 [aI l1] [] rfl rfl (Nat.le_of_ble_eq_true rfl) (by decide) ⟨Nat.zero_le _, Nat.zero_le _⟩ 0 0 rfl rfl dX10_blockersOf_34 w (fun x4 h5 w => ?_)
    refine r_aload_n C dX10_blockersOf_37 rfl 0 rfl ?_
    refine r_getP C fcX10 (f := 5) (by decide) rfl k313 dX10_blockersOf_38 (w.mono fun x6 w => ?_)
    refine r_iload C dX10_blockersOf_41 5 rfl ?_
    refine r_cvI (rm' := rmX8_x) C mX8_x vX8_x k409 [aI l6] [aI x4] rfl rfl (Nat.le_of_ble_eq_true rfl) (by decide) ⟨Nat.zero_le _, Nat.zero_le _⟩ 0 0 rfl rfl dX10_blockersOf_43 w (fun x7 h8 w => ?_)
    refine r_isub C dX10_blockersOf_46 ?_
    refine r_istore C dX10_blockersOf_47 (by decide) rfl ?_
    have w := w _ rfl
    skip
    refine r_aload_n C dX10_blockersOf_49 rfl 1 rfl ?_
    refine r_getP C fcX10 (f := 5) (by decide) rfl k313 dX10_blockersOf_50 (w.mono fun x10 w => ?_)
    refine r_iload_n C dX10_blockersOf_53 rfl 2 rfl ?_
    refine r_cvI (rm' := rmX8_y) C mX8_y vX8_y k410 [aI l1] [] rfl rfl (Nat.le_of_ble_eq_true rfl) (by decide) ⟨Nat.zero_le _, Nat.zero_le _⟩ 0 0 rfl rfl dX10_blockersOf_54 w (fun x11 h12 w => ?_)
    refine r_aload_n C dX10_blockersOf_57 rfl 1 rfl ?_
    refine r_getP C fcX10 (f := 5) (by decide) rfl k313 dX10_blockersOf_58 (w.mono fun x13 w => ?_)
    refine r_iload C dX10_blockersOf_61 6 rfl ?_
    refine r_cvI (rm' := rmX8_y) C mX8_y vX8_y k410 [aI l6] [aI x11] rfl rfl (Nat.le_of_ble_eq_true rfl) (by decide) ⟨Nat.zero_le _, Nat.zero_le _⟩ 0 0 rfl rfl dX10_blockersOf_63 w (fun x14 h15 w => ?_)
    refine r_isub C dX10_blockersOf_66 ?_
    refine r_istore C dX10_blockersOf_67 (by decide) rfl ?_
    have w := w _ rfl
    skip
    refine r_iload C dX10_blockersOf_69 7 rfl ?_
    refine r_iload_n C dX10_blockersOf_71 rfl 3 rfl ?_
    refine r_icmp_eq C dX10_blockersOf_72 (tgt := 118) rfl (fun hc => ?_) (fun hc => ?_)
    · have w := w.1 hc
      refine r_iinc C dX10_blockersOf_118 7 rfl (v := 1) rfl (by decide) rfl ?_
      refine r_goto C dX10_blockersOf_121 (tgt := 17) rfl ?_
      exact r_sub [3, 4, 5, 6, 7, 0] rfl (g17 h15 l0 l1 l3 l4 l5 (l6 + (1 : Int32)) w)
    · have w := w.2 hc
      refine r_aload_n C dX10_blockersOf_75 rfl 2 rfl ?_
      refine r_getP C fcX10 (f := 3) (by decide) rfl k311 dX10_blockersOf_76 (w.mono fun x17 w => ?_)
      refine r_aload_n C dX10_blockersOf_79 rfl 2 rfl ?_
      refine r_getP C fcX10 (f := 5) (by decide) rfl k313 dX10_blockersOf_80 (w.mono fun x18 w => ?_)
      refine r_iload C dX10_blockersOf_83 7 rfl ?_
      refine r_cvP (rm' := rmX8_shape) C mX8_shape vX8_shape k411 [aI l6] [aP x17] rfl rfl (Nat.le_of_ble_eq_true rfl) (by decide) ⟨Nat.zero_le _, Nat.zero_le _⟩ 0 0 rfl rfl dX10_blockersOf_85 w (fun x19 h20 w => ?_)
      refine r_aload_n C dX10_blockersOf_88 rfl 2 rfl ?_
      refine r_getP C fcX10 (f := 5) (by decide) rfl k313 dX10_blockersOf_89 (w.mono fun x21 w => ?_)
      refine r_iload_n C dX10_blockersOf_92 rfl 3 rfl ?_
      refine r_cvP (rm' := rmX8_shape) C mX8_shape vX8_shape k411 [aI l1] [aP x19, aP x17] rfl rfl (Nat.le_of_ble_eq_true rfl) (by decide) ⟨Nat.zero_le _, Nat.zero_le _⟩ 0 0 rfl rfl dX10_blockersOf_93 w (fun x22 h23 w => ?_)
      refine r_iload C dX10_blockersOf_96 1 rfl ?_
      refine r_iload C dX10_blockersOf_98 0 rfl ?_
      refine r_iload_n C dX10_blockersOf_100 rfl 4 rfl ?_
      refine r_iload C dX10_blockersOf_101 5 rfl ?_
      refine r_cvI (rm' := rmX3_isStopped) C mX3_isStopped vX3_isStopped k521 [aP x19, aP x22, aI (x4 - x7), aI (x11 - x14), aI l3, aI l4] [] rfl rfl (Nat.le_of_ble_eq_true rfl) (by decide) ⟨Nat.zero_le _, Nat.zero_le _⟩ 0 0 rfl rfl dX10_blockersOf_103 w (fun x24 h25 w => ?_)
      refine r_if_eq C dX10_blockersOf_106 (tgt := 118) rfl (fun hc => ?_) (fun hc => ?_)
      · have w := w.1 hc
        refine r_iinc C dX10_blockersOf_118 7 rfl (v := 1) rfl (by decide) rfl ?_
        refine r_goto C dX10_blockersOf_121 (tgt := 17) rfl ?_
        exact r_sub [3, 4, 5, 6, 7, 0] rfl (g17 h25 l0 l1 l3 l4 l5 (l6 + (1 : Int32)) w)
      · have w := w.2 hc
        refine r_iload C dX10_blockersOf_109 6 rfl ?_
        refine r_iconst (v := 1) C dX10_blockersOf_111 rfl ?_
        refine r_iload C dX10_blockersOf_112 7 rfl ?_
        refine r_ishl C dX10_blockersOf_114 ?_
        refine r_ior C dX10_blockersOf_115 ?_
        refine r_istore C dX10_blockersOf_116 (by decide) rfl ?_
        have w := w _ rfl
        skip
        refine r_iinc C dX10_blockersOf_118 7 rfl (v := 1) rfl (by decide) rfl ?_
        refine r_goto C dX10_blockersOf_121 (tgt := 17) rfl ?_
        exact r_sub [4, 5, 6, 7, 1, 0] rfl (g17 h25 l0 l1 l3 l4 (l5 ||| ((1 : Int32) <<< (l6 &&& 31))) (l6 + (1 : Int32)) w)
theorem lpX10_blockersOf_17 {E : EV} {X : AX} {post : Option AV → AH → Prop} (C : Cb E X cX10_blockersOf RX10 9 rmX10_blockersOf) (D : Cr E X (some .int) rmX10_blockersOf "blockersOf" post) (I : Nat → AH → Option Nat → Int32 → Int32 → Int32 → Int32 → Int32 → Prop) (step : ∀ (z : Nat) (h : AH) (l0 : Option Nat) (l1 : Int32) (l3 : Int32) (l4 : Int32) (l5 : Int32) (l6 : Int32), I z h l0 l1 l3 l4 l5 l6 → PX10_blockersOf_17 E post (fun h l0 l1 l3 l4 l5 l6 => ∃ z', z' < z ∧ I z' h l0 l1 l3 l4 l5 l6) h l0 l1 l3 l4 l5 l6) : ∀ (z : Nat) (h : AH) (l0 : Option Nat) (l1 : Int32) (l3 : Int32) (l4 : Int32) (l5 : Int32) (l6 : Int32), I z h l0 l1 l3 l4 l5 l6 → Go E X 9 0 0 17 [(0, aP l0), (1, aI l1), (3, aI l3), (4, aI l4), (5, aI l5), (6, aI l6)] [] h := by
  intro z
  induction z using Nat.strongRecOn with
  | _ z ih =>
    intro h l0 l1 l3 l4 l5 l6 hI
    exact bX10_blockersOf_17 C D (fun h l0 l1 l3 l4 l5 l6 hJ => by obtain ⟨z', hz, hi⟩ := hJ; exact ih z' hz h l0 l1 l3 l4 l5 l6 hi) (step z h l0 l1 l3 l4 l5 l6 hI)
def PX10_blockersOf_0 (E : EV) (post : Option AV → AH → Prop) (J17 : AH → Option Nat → Int32 → Int32 → Int32 → Int32 → Int32 → Prop) (h : AH) (l0 : Option Nat) (l1 : Int32) (l2 : Int32) : Prop :=
  CS (sX10_directionX E) [aI l2] h (kI fun x1 h2 => CS (sX10_directionY E) [aI l2] h2 (kI fun x4 h5 => J17 h5 l0 l1 x1 x4 (0 : Int32) (0 : Int32)))
theorem bX10_blockersOf_0 {E : EV} {X : AX} {post : Option AV → AH → Prop} (C : Cb E X cX10_blockersOf RX10 9 rmX10_blockersOf) (D : Cr E X (some .int) rmX10_blockersOf "blockersOf" post) {J17 : AH → Option Nat → Int32 → Int32 → Int32 → Int32 → Int32 → Prop} (g17 : ∀ (h : AH) (l0 : Option Nat) (l1 : Int32) (l3 : Int32) (l4 : Int32) (l5 : Int32) (l6 : Int32), J17 h l0 l1 l3 l4 l5 l6 → Go E X 9 0 0 17 [(0, aP l0), (1, aI l1), (3, aI l3), (4, aI l4), (5, aI l5), (6, aI l6)] [] h) {h : AH} {l0 : Option Nat} {l1 : Int32} {l2 : Int32} (w : PX10_blockersOf_0 E post J17 h l0 l1 l2) : Go E X 9 0 0 0 [(0, aP l0), (1, aI l1), (2, aI l2)] [] h := by
  unfold PX10_blockersOf_0 at w
  refine r_iload_n C dX10_blockersOf_0 rfl 2 rfl ?_
  refine r_csI (rm' := rmX10_directionX) C mX10_directionX vX10_directionX k511 [aI l2] [] rfl rfl (Nat.le_of_ble_eq_true rfl) (by decide) ⟨Nat.zero_le _, Nat.zero_le _⟩ 0 0 rfl rfl dX10_blockersOf_1 w (fun x1 h2 w => ?_)
  refine r_istore_n C dX10_blockersOf_4 rfl (by decide) rfl ?_
  refine r_iload_n C dX10_blockersOf_5 rfl 3 rfl ?_
  refine r_csI (rm' := rmX10_directionY) C mX10_directionY vX10_directionY k516 [aI l2] [] rfl rfl (Nat.le_of_ble_eq_true rfl) (by decide) ⟨Nat.zero_le _, Nat.zero_le _⟩ 0 0 rfl rfl dX10_blockersOf_6 w (fun x4 h5 w => ?_)
  refine r_istore C dX10_blockersOf_9 (by decide) rfl ?_
  refine r_iconst (v := 0) C dX10_blockersOf_11 rfl ?_
  refine r_istore C dX10_blockersOf_12 (by decide) rfl ?_
  refine r_iconst (v := 0) C dX10_blockersOf_14 rfl ?_
  refine r_istore C dX10_blockersOf_15 (by decide) rfl ?_
  exact r_sub [4, 5, 3, 2, 1, 0] rfl (g17 h5 l0 l1 x1 x4 (0 : Int32) (0 : Int32) w)
theorem eX10_blockersOf {E : EV} {post : Option AV → AH → Prop} {h : AH} {l0 : Option Nat} {l1 : Int32} {l2 : Int32} {J17 : AH → Option Nat → Int32 → Int32 → Int32 → Int32 → Int32 → Prop} (g17 : ∀ X : AX, Cb E X cX10_blockersOf RX10 9 rmX10_blockersOf → Cr E X (some .int) rmX10_blockersOf "blockersOf" post → ∀ (h : AH) (l0 : Option Nat) (l1 : Int32) (l3 : Int32) (l4 : Int32) (l5 : Int32) (l6 : Int32), J17 h l0 l1 l3 l4 l5 l6 → Go E X 9 0 0 17 [(0, aP l0), (1, aI l1), (3, aI l3), (4, aI l4), (5, aI l5), (6, aI l6)] [] h) (w : PX10_blockersOf_0 E post J17 h l0 l1 l2) : sX10_blockersOf E [aP l0, aI l1, aI l2] h post := Spec.of RX10 rfl rfl (Nat.le_of_ble_eq_true rfl) fun X C D => bX10_blockersOf_0 C D (g17 X C D) w
theorem dX10_itemSide_0 : decode cX10_itemSide 0 = .ok (.aload_n 0, 1) := by decide +kernel
theorem dX10_itemSide_1 : decode cX10_itemSide 1 = .ok (.getfield 52, 3) := by decide +kernel
theorem dX10_itemSide_4 : decode cX10_itemSide 4 = .ok (.iload_n 1, 1) := by decide +kernel
theorem dX10_itemSide_5 : decode cX10_itemSide 5 = .ok (.invokevirtual 261, 3) := by decide +kernel
theorem dX10_itemSide_8 : decode cX10_itemSide 8 = .ok (.astore_n 3, 1) := by decide +kernel
theorem dX10_itemSide_9 : decode cX10_itemSide 9 = .ok (.iload_n 2, 1) := by decide +kernel
theorem dX10_itemSide_10 : decode cX10_itemSide 10 = .ok (.tableswitch 68 0 2 #[26, 40, 54], 26) := by decide +kernel
theorem dX10_itemSide_36 : decode cX10_itemSide 36 = .ok (.aload_n 0, 1) := by decide +kernel
theorem dX10_itemSide_37 : decode cX10_itemSide 37 = .ok (.getfield 52, 3) := by decide +kernel
theorem dX10_itemSide_40 : decode cX10_itemSide 40 = .ok (.iload_n 1, 1) := by decide +kernel
theorem dX10_itemSide_41 : decode cX10_itemSide 41 = .ok (.invokevirtual 274, 3) := by decide +kernel
theorem dX10_itemSide_44 : decode cX10_itemSide 44 = .ok (.aload_n 3, 1) := by decide +kernel
theorem dX10_itemSide_45 : decode cX10_itemSide 45 = .ok (.getfield 360, 3) := by decide +kernel
theorem dX10_itemSide_48 : decode cX10_itemSide 48 = .ok (.iadd, 1) := by decide +kernel
theorem dX10_itemSide_49 : decode cX10_itemSide 49 = .ok (.ireturn, 1) := by decide +kernel
theorem dX10_itemSide_50 : decode cX10_itemSide 50 = .ok (.aload_n 0, 1) := by decide +kernel
theorem dX10_itemSide_51 : decode cX10_itemSide 51 = .ok (.getfield 52, 3) := by decide +kernel
theorem dX10_itemSide_54 : decode cX10_itemSide 54 = .ok (.iload_n 1, 1) := by decide +kernel
theorem dX10_itemSide_55 : decode cX10_itemSide 55 = .ok (.invokevirtual 275, 3) := by decide +kernel
theorem dX10_itemSide_58 : decode cX10_itemSide 58 = .ok (.aload_n 3, 1) := by decide +kernel
theorem dX10_itemSide_59 : decode cX10_itemSide 59 = .ok (.getfield 363, 3) := by decide +kernel
theorem dX10_itemSide_62 : decode cX10_itemSide 62 = .ok (.iadd, 1) := by decide +kernel
theorem dX10_itemSide_63 : decode cX10_itemSide 63 = .ok (.ireturn, 1) := by decide +kernel
theorem dX10_itemSide_64 : decode cX10_itemSide 64 = .ok (.aload_n 0, 1) := by decide +kernel
theorem dX10_itemSide_65 : decode cX10_itemSide 65 = .ok (.getfield 52, 3) := by decide +kernel
theorem dX10_itemSide_68 : decode cX10_itemSide 68 = .ok (.iload_n 1, 1) := by decide +kernel
theorem dX10_itemSide_69 : decode cX10_itemSide 69 = .ok (.invokevirtual 274, 3) := by decide +kernel
theorem dX10_itemSide_72 : decode cX10_itemSide 72 = .ok (.aload_n 3, 1) := by decide +kernel
theorem dX10_itemSide_73 : decode cX10_itemSide 73 = .ok (.getfield 350, 3) := by decide +kernel
theorem dX10_itemSide_76 : decode cX10_itemSide 76 = .ok (.iadd, 1) := by decide +kernel
theorem dX10_itemSide_77 : decode cX10_itemSide 77 = .ok (.ireturn, 1) := by decide +kernel
theorem dX10_itemSide_78 : decode cX10_itemSide 78 = .ok (.aload_n 0, 1) := by decide +kernel
theorem dX10_itemSide_79 : decode cX10_itemSide 79 = .ok (.getfield 52, 3) := by decide +kernel
theorem dX10_itemSide_82 : decode cX10_itemSide 82 = .ok (.iload_n 1, 1) := by decide +kernel
theorem dX10_itemSide_83 : decode cX10_itemSide 83 = .ok (.invokevirtual 275, 3) := by decide +kernel
theorem dX10_itemSide_86 : decode cX10_itemSide 86 = .ok (.aload_n 3, 1) := by decide +kernel
theorem dX10_itemSide_87 : decode cX10_itemSide 87 = .ok (.getfield 347, 3) := by decide +kernel
theorem dX10_itemSide_90 : decode cX10_itemSide 90 = .ok (.iadd, 1) := by decide +kernel
theorem dX10_itemSide_91 : decode cX10_itemSide 91 = .ok (.ireturn, 1) := by decide +kernel
abbrev rmX10_itemSide : Room := { frames := 1, cells := 0, slots := 0, locals := 40 }
abbrev sX10_itemSide (E : EV) : List AV → AH → (Option AV → AH → Prop) → Prop := Spec E yX10_itemSide cX10_itemSide 4 (some .int) rmX10_itemSide
theorem mX10_itemSide : Mt yX10_itemSide cX10_itemSide 4 (some .int) 2 := ⟨k541, k1, by decide +kernel⟩
theorem vX10_itemSide : MtV yX10_itemSide 10 := ⟨k540, kp7, by decide, (RX10, TX10, 12), rfl, rfl⟩
def PX10_itemSide_0 (E : EV) (post : Option AV → AH → Prop) (h : AH) (l0 : Option Nat) (l1 : Int32) (l2 : Int32) : Prop :=
  rdP h l0 10 5 fun x1 => CV (sX8_shape E) x1 8 [aI l1] h (kP fun x2 h3 => (l2.toInt < 0 ∨ 2 < l2.toInt → rdP h3 l0 10 5 fun x5 => CV (sX8_y E) x5 8 [aI l1] h3 (kI fun x6 h7 => rdI h7 x2 6 8 fun x8 => post (some (aI (x6 + x8))) h7)) ∧ (l2.toInt = 0 → rdP h3 l0 10 5 fun x5 => CV (sX8_x E) x5 8 [aI l1] h3 (kI fun x6 h7 => rdI h7 x2 6 5 fun x8 => post (some (aI (x6 + x8))) h7)) ∧ (l2.toInt = 1 → rdP h3 l0 10 5 fun x5 => CV (sX8_y E) x5 8 [aI l1] h3 (kI fun x6 h7 => rdI h7 x2 6 6 fun x8 => post (some (aI (x6 + x8))) h7)) ∧ (l2.toInt = 2 → rdP h3 l0 10 5 fun x5 => CV (sX8_x E) x5 8 [aI l1] h3 (kI fun x6 h7 => rdI h7 x2 6 7 fun x8 => post (some (aI (x6 + x8))) h7)))
theorem bX10_itemSide_0 {E : EV} {X : AX} {post : Option AV → AH → Prop} (C : Cb E X cX10_itemSide RX10 4 rmX10_itemSide) (D : Cr E X (some .int) rmX10_itemSide "itemSide" post) {h : AH} {l0 : Option Nat} {l1 : Int32} {l2 : Int32} (w : PX10_itemSide_0 E post h l0 l1 l2) : Go E X 4 0 0 0 [(0, aP l0), (1, aI l1), (2, aI l2)] [] h := by
  unfold PX10_itemSide_0 at w
  refine r_aload_n C dX10_itemSide_0 rfl 0 rfl ?_
  refine r_getP C fcX10 (f := 5) (by decide) rfl k313 dX10_itemSide_1 (w.mono fun x1 w => ?_)
  refine r_iload_n C dX10_itemSide_4 rfl 1 rfl ?_
  refine r_cvP (rm' := rmX8_shape) C mX8_shape vX8_shape k411 [aI l1] [] rfl rfl (Nat.le_of_ble_eq_true rfl) (by decide) ⟨Nat.zero_le _, Nat.zero_le _⟩ 0 0 rfl rfl dX10_itemSide_5 w (fun x2 h3 w => ?_)
  refine r_astore_n C dX10_itemSide_8 rfl (by decide) rfl ?_
  refine r_iload_n C dX10_itemSide_9 rfl 3 rfl ?_
  by_cases ho : l2.toInt < 0 ∨ 2 < l2.toInt
  · refine r_tout C dX10_itemSide_10 ho (tgt := 78) rfl ?_
    have w := w.1 ho
    refine r_aload_n C dX10_itemSide_78 rfl 1 rfl ?_
    refine r_getP C fcX10 (f := 5) (by decide) rfl k313 dX10_itemSide_79 (w.mono fun x5 w => ?_)
    refine r_iload_n C dX10_itemSide_82 rfl 2 rfl ?_
    refine r_cvI (rm' := rmX8_y) C mX8_y vX8_y k410 [aI l1] [] rfl rfl (Nat.le_of_ble_eq_true rfl) (by decide) ⟨Nat.zero_le _, Nat.zero_le _⟩ 0 0 rfl rfl dX10_itemSide_83 w (fun x6 h7 w => ?_)
    refine r_aload_n C dX10_itemSide_86 rfl 0 rfl ?_
    refine r_getI C fcX6 (f := 8) (by decide) rfl k46 dX10_itemSide_87 (w.mono fun x8 w => ?_)
    refine r_iadd C dX10_itemSide_90 ?_
    exact r_iret C D rfl (Nat.zero_le _) (Nat.zero_le _) dX10_itemSide_91 w
  have w := w.2
  by_cases ho0 : l2.toInt = 0
  · refine r_tin C dX10_itemSide_10 (by omega) (by omega) (off := 26) (by rw [ho0]; rfl) (tgt := 36) rfl ?_
    have w := w.1 ho0
    refine r_aload_n C dX10_itemSide_36 rfl 1 rfl ?_
    refine r_getP C fcX10 (f := 5) (by decide) rfl k313 dX10_itemSide_37 (w.mono fun x5 w => ?_)
    refine r_iload_n C dX10_itemSide_40 rfl 2 rfl ?_
    refine r_cvI (rm' := rmX8_x) C mX8_x vX8_x k409 [aI l1] [] rfl rfl (Nat.le_of_ble_eq_true rfl) (by decide) ⟨Nat.zero_le _, Nat.zero_le _⟩ 0 0 rfl rfl dX10_itemSide_41 w (fun x6 h7 w => ?_)
    refine r_aload_n C dX10_itemSide_44 rfl 0 rfl ?_
    refine r_getI C fcX6 (f := 5) (by decide) rfl k37 dX10_itemSide_45 (w.mono fun x8 w => ?_)
    refine r_iadd C dX10_itemSide_48 ?_
    exact r_iret C D rfl (Nat.zero_le _) (Nat.zero_le _) dX10_itemSide_49 w
  have w := w.2
  by_cases ho1 : l2.toInt = 1
  · refine r_tin C dX10_itemSide_10 (by omega) (by omega) (off := 40) (by rw [ho1]; rfl) (tgt := 50) rfl ?_
    have w := w.1 ho1
    refine r_aload_n C dX10_itemSide_50 rfl 1 rfl ?_
    refine r_getP C fcX10 (f := 5) (by decide) rfl k313 dX10_itemSide_51 (w.mono fun x5 w => ?_)
    refine r_iload_n C dX10_itemSide_54 rfl 2 rfl ?_
    refine r_cvI (rm' := rmX8_y) C mX8_y vX8_y k410 [aI l1] [] rfl rfl (Nat.le_of_ble_eq_true rfl) (by decide) ⟨Nat.zero_le _, Nat.zero_le _⟩ 0 0 rfl rfl dX10_itemSide_55 w (fun x6 h7 w => ?_)
    refine r_aload_n C dX10_itemSide_58 rfl 0 rfl ?_
    refine r_getI C fcX6 (f := 6) (by decide) rfl k40 dX10_itemSide_59 (w.mono fun x8 w => ?_)
    refine r_iadd C dX10_itemSide_62 ?_
    exact r_iret C D rfl (Nat.zero_le _) (Nat.zero_le _) dX10_itemSide_63 w
  have w := w.2
  have ho2 : l2.toInt = 2 := by omega
  refine r_tin C dX10_itemSide_10 (by omega) (by omega) (off := 54) (by rw [ho2]; rfl) (tgt := 64) rfl ?_
  have w := w ho2
  refine r_aload_n C dX10_itemSide_64 rfl 1 rfl ?_
  refine r_getP C fcX10 (f := 5) (by decide) rfl k313 dX10_itemSide_65 (w.mono fun x5 w => ?_)
  refine r_iload_n C dX10_itemSide_68 rfl 2 rfl ?_
  refine r_cvI (rm' := rmX8_x) C mX8_x vX8_x k409 [aI l1] [] rfl rfl (Nat.le_of_ble_eq_true rfl) (by decide) ⟨Nat.zero_le _, Nat.zero_le _⟩ 0 0 rfl rfl dX10_itemSide_69 w (fun x6 h7 w => ?_)
  refine r_aload_n C dX10_itemSide_72 rfl 0 rfl ?_
  refine r_getI C fcX6 (f := 7) (by decide) rfl k43 dX10_itemSide_73 (w.mono fun x8 w => ?_)
  refine r_iadd C dX10_itemSide_76 ?_
  exact r_iret C D rfl (Nat.zero_le _) (Nat.zero_le _) dX10_itemSide_77 w
theorem eX10_itemSide {E : EV} {post : Option AV → AH → Prop} {h : AH} {l0 : Option Nat} {l1 : Int32} {l2 : Int32} (w : PX10_itemSide_0 E post h l0 l1 l2) : sX10_itemSide E [aP l0, aI l1, aI l2] h post := Spec.of RX10 rfl rfl (Nat.le_of_ble_eq_true rfl) fun X C D => bX10_itemSide_0 C D w
theorem dX10_boundingBox_0 : decode cX10_boundingBox 0 = .ok (.iload_n 1, 1) := by decide +kernel
theorem dX10_boundingBox_1 : decode cX10_boundingBox 1 = .ok (.ifCond .lt 8, 3) := by decide +kernel
theorem dX10_boundingBox_4 : decode cX10_boundingBox 4 = .ok (.iload_n 1, 1) := by decide +kernel
theorem dX10_boundingBox_5 : decode cX10_boundingBox 5 = .ok (.iconst 3, 1) := by decide +kernel
theorem dX10_boundingBox_6 : decode cX10_boundingBox 6 = .ok (.if_icmp .le 6, 3) := by decide +kernel
theorem dX10_boundingBox_9 : decode cX10_boundingBox 9 = .ok (.ldc 88, 2) := by decide +kernel
theorem dX10_boundingBox_11 : decode cX10_boundingBox 11 = .ok (.ireturn, 1) := by decide +kernel
theorem dX10_boundingBox_12 : decode cX10_boundingBox 12 = .ok (.aload_n 0, 1) := by decide +kernel
theorem dX10_boundingBox_13 : decode cX10_boundingBox 13 = .ok (.getfield 52, 3) := by decide +kernel
theorem dX10_boundingBox_16 : decode cX10_boundingBox 16 = .ok (.getfield 218, 3) := by decide +kernel
theorem dX10_boundingBox_19 : decode cX10_boundingBox 19 = .ok (.ifCond .ne 6, 3) := by decide +kernel
theorem dX10_boundingBox_22 : decode cX10_boundingBox 22 = .ok (.ldc 160, 2) := by decide +kernel
theorem dX10_boundingBox_24 : decode cX10_boundingBox 24 = .ok (.ireturn, 1) := by decide +kernel
theorem dX10_boundingBox_25 : decode cX10_boundingBox 25 = .ok (.aload_n 0, 1) := by decide +kernel
theorem dX10_boundingBox_26 : decode cX10_boundingBox 26 = .ok (.iconst 0, 1) := by decide +kernel
theorem dX10_boundingBox_27 : decode cX10_boundingBox 27 = .ok (.iload_n 1, 1) := by decide +kernel
theorem dX10_boundingBox_28 : decode cX10_boundingBox 28 = .ok (.invokevirtual 307, 3) := by decide +kernel
theorem dX10_boundingBox_31 : decode cX10_boundingBox 31 = .ok (.istore_n 2, 1) := by decide +kernel
theorem dX10_boundingBox_32 : decode cX10_boundingBox 32 = .ok (.iconst 1, 1) := by decide +kernel
theorem dX10_boundingBox_33 : decode cX10_boundingBox 33 = .ok (.istore_n 3, 1) := by decide +kernel
theorem dX10_boundingBox_34 : decode cX10_boundingBox 34 = .ok (.iload_n 3, 1) := by decide +kernel
theorem dX10_boundingBox_35 : decode cX10_boundingBox 35 = .ok (.aload_n 0, 1) := by decide +kernel
theorem dX10_boundingBox_36 : decode cX10_boundingBox 36 = .ok (.getfield 52, 3) := by decide +kernel
theorem dX10_boundingBox_39 : decode cX10_boundingBox 39 = .ok (.getfield 218, 3) := by decide +kernel
theorem dX10_boundingBox_42 : decode cX10_boundingBox 42 = .ok (.if_icmp .ge 38, 3) := by decide +kernel
theorem dX10_boundingBox_45 : decode cX10_boundingBox 45 = .ok (.aload_n 0, 1) := by decide +kernel
theorem dX10_boundingBox_46 : decode cX10_boundingBox 46 = .ok (.iload_n 3, 1) := by decide +kernel
theorem dX10_boundingBox_47 : decode cX10_boundingBox 47 = .ok (.iload_n 1, 1) := by decide +kernel
theorem dX10_boundingBox_48 : decode cX10_boundingBox 48 = .ok (.invokevirtual 307, 3) := by decide +kernel
theorem dX10_boundingBox_51 : decode cX10_boundingBox 51 = .ok (.istore 4, 2) := by decide +kernel
theorem dX10_boundingBox_53 : decode cX10_boundingBox 53 = .ok (.iload_n 1, 1) := by decide +kernel
theorem dX10_boundingBox_54 : decode cX10_boundingBox 54 = .ok (.iconst 2, 1) := by decide +kernel
theorem dX10_boundingBox_55 : decode cX10_boundingBox 55 = .ok (.if_icmp .ge 12, 3) := by decide +kernel
theorem dX10_boundingBox_58 : decode cX10_boundingBox 58 = .ok (.iload_n 2, 1) := by decide +kernel
theorem dX10_boundingBox_59 : decode cX10_boundingBox 59 = .ok (.iload 4, 2) := by decide +kernel
theorem dX10_boundingBox_61 : decode cX10_boundingBox 61 = .ok (.invokestatic 310, 3) := by decide +kernel
theorem dX10_boundingBox_64 : decode cX10_boundingBox 64 = .ok (.goto 9, 3) := by decide +kernel
theorem dX10_boundingBox_67 : decode cX10_boundingBox 67 = .ok (.iload_n 2, 1) := by decide +kernel
theorem dX10_boundingBox_68 : decode cX10_boundingBox 68 = .ok (.iload 4, 2) := by decide +kernel
theorem dX10_boundingBox_70 : decode cX10_boundingBox 70 = .ok (.invokestatic 315, 3) := by decide +kernel
theorem dX10_boundingBox_73 : decode cX10_boundingBox 73 = .ok (.istore_n 2, 1) := by decide +kernel
theorem dX10_boundingBox_74 : decode cX10_boundingBox 74 = .ok (.iinc 3 1, 3) := by decide +kernel
theorem dX10_boundingBox_77 : decode cX10_boundingBox 77 = .ok (.goto (-43), 3) := by decide +kernel
theorem dX10_boundingBox_80 : decode cX10_boundingBox 80 = .ok (.iload_n 2, 1) := by decide +kernel
theorem dX10_boundingBox_81 : decode cX10_boundingBox 81 = .ok (.ireturn, 1) := by decide +kernel
abbrev rmX10_boundingBox : Room := { frames := 2, cells := 0, slots := 0, locals := 80 }
abbrev sX10_boundingBox (E : EV) : List AV → AH → (Option AV → AH → Prop) → Prop := Spec E yX10_boundingBox cX10_boundingBox 5 (some .int) rmX10_boundingBox
theorem mX10_boundingBox : Mt yX10_boundingBox cX10_boundingBox 5 (some .int) 1 := ⟨k536, k1, by decide +kernel⟩
theorem vX10_boundingBox : MtV yX10_boundingBox 10 := ⟨k534, k535, by decide, (RX10, TX10, 12), rfl, rfl⟩
def PX10_boundingBox_34 (E : EV) (post : Option AV → AH → Prop) (J34 : AH → Option Nat → Int32 → Int32 → Int32 → Prop) (h : AH) (l0 : Option Nat) (l1 : Int32) (l2 : Int32) (l3 : Int32) : Prop :=
  rdP h l0 10 5 fun x1 => rdI h x1 8 5 fun x2 => (x2 ≤ l3 → post (some (aI l2)) h) ∧ (¬ x2 ≤ l3 → CV (sX10_itemSide E) l0 10 [aI l3, aI l1] h (kI fun x3 h4 => ((2 : Int32) ≤ l1 → ∀ v6, v6 = (if l2 < x3 then x3 else l2) → J34 h4 l0 l1 v6 (l3 + (1 : Int32))) ∧ (¬ (2 : Int32) ≤ l1 → ∀ v6, v6 = (if x3 < l2 then x3 else l2) → J34 h4 l0 l1 v6 (l3 + (1 : Int32)))))
theorem bX10_boundingBox_34 {E : EV} {X : AX} {post : Option AV → AH → Prop} (C : Cb E X cX10_boundingBox RX10 5 rmX10_boundingBox) (D : Cr E X (some .int) rmX10_boundingBox "boundingBox" post) {J34 : AH → Option Nat → Int32 → Int32 → Int32 → Prop} (g34 : ∀ (h : AH) (l0 : Option Nat) (l1 : Int32) (l2 : Int32) (l3 : Int32), J34 h l0 l1 l2 l3 → Go E X 5 0 0 34 [(0, aP l0), (1, aI l1), (2, aI l2), (3, aI l3)] [] h) {h : AH} {l0 : Option Nat} {l1 : Int32} {l2 : Int32} {l3 : Int32} (w : PX10_boundingBox_34 E post J34 h l0 l1 l2 l3) : Go E X 5 0 0 34 [(0, aP l0), (1, aI l1), (2, aI l2), (3, aI l3)] [] h := by
  unfold PX10_boundingBox_34 at w
  refine r_iload_n C dX10_boundingBox_34 rfl 3 rfl ?_
  refine r_aload_n C dX10_boundingBox_35 rfl 0 rfl ?_
  refine r_getP C fcX10 (f := 5) (by decide) rfl k313 dX10_boundingBox_36 (w.mono fun x1 w => ?_)
  refine r_getI C fcX8 (f := 5) (by decide) rfl k258 dX10_boundingBox_39 (w.mono fun x2 w => ?_)
  refine r_icmp_ge C dX10_boundingBox_42 (tgt := 80) rfl (fun hc => ?_) (fun hc => ?_)
  · have w := w.1 hc
    refine r_iload_n C dX10_boundingBox_80 rfl 2 rfl ?_
    exact r_iret C D rfl (Nat.zero_le _) (Nat.zero_le _) dX10_boundingBox_81 w
  · have w := w.2 hc
    refine r_aload_n C dX10_boundingBox_45 rfl 0 rfl ?_
    refine r_iload_n C dX10_boundingBox_46 rfl 3 rfl ?_
    refine r_iload_n C dX10_boundingBox_47 rfl 1 rfl ?_
    refine r_cvI (rm' := rmX10_itemSide) C mX10_itemSide vX10_itemSide k538 [aI l3, aI l1] [] rfl rfl (Nat.le_of_ble_eq_true rfl) (by decide) ⟨Nat.zero_le _, Nat.zero_le _⟩ 0 0 rfl rfl dX10_boundingBox_48 w (fun x3 h4 w => ?_)
    refine r_istore C dX10_boundingBox_51 (by decide) rfl ?_
    refine r_iload_n C dX10_boundingBox_53 rfl 2 rfl ?_
    refine r_iconst (v := 2) C dX10_boundingBox_54 rfl ?_
    refine r_icmp_ge C dX10_boundingBox_55 (tgt := 67) rfl (fun hc => ?_) (fun hc => ?_)
    · have w := w.1 hc
      refine r_iload_n C dX10_boundingBox_67 rfl 3 rfl ?_
      refine r_iload C dX10_boundingBox_68 0 rfl ?_
      refine r_mmax C k545 k546 k12 k547 (by decide) (Nat.le_of_ble_eq_true rfl) (Nat.zero_le _) (Nat.zero_le _) dX10_boundingBox_70 ?_
      have w := w _ rfl
      generalize (if l2 < x3 then x3 else l2) = v6 at w ⊢
      refine r_istore_n C dX10_boundingBox_73 rfl (by decide) rfl ?_
      refine r_iinc C dX10_boundingBox_74 4 rfl (v := 1) rfl (by decide) rfl ?_
      refine r_goto C dX10_boundingBox_77 (tgt := 34) rfl ?_
      exact r_sub [3, 4, 1, 0] rfl (g34 h4 l0 l1 v6 (l3 + (1 : Int32)) w)
    · have w := w.2 hc
      refine r_iload_n C dX10_boundingBox_58 rfl 3 rfl ?_
      refine r_iload C dX10_boundingBox_59 0 rfl ?_
      refine r_mmin C k542 k543 k12 k544 (by decide) (Nat.le_of_ble_eq_true rfl) (Nat.zero_le _) (Nat.zero_le _) dX10_boundingBox_61 ?_
      have w := w _ rfl
      generalize (if x3 < l2 then x3 else l2) = v6 at w ⊢
      refine r_goto C dX10_boundingBox_64 (tgt := 73) rfl ?_
      refine r_istore_n C dX10_boundingBox_73 rfl (by decide) rfl ?_
      refine r_iinc C dX10_boundingBox_74 4 rfl (v := 1) rfl (by decide) rfl ?_
      refine r_goto C dX10_boundingBox_77 (tgt := 34) rfl ?_
      exact r_sub [3, 4, 1, 0] rfl (g34 h4 l0 l1 v6 (l3 + (1 : Int32)) w)
theorem lpX10_boundingBox_34 {E : EV} {X : AX} {post : Option AV → AH → Prop} (C : Cb E X cX10_boundingBox RX10 5 rmX10_boundingBox) (D : Cr E X (some .int) rmX10_boundingBox "boundingBox" post) (I : Nat → AH → Option Nat → Int32 → Int32 → Int32 → Prop) (step : ∀ (z : Nat) (h : AH) (l0 : Option Nat) (l1 : Int32) (l2 : Int32) (l3 : Int32), I z h l0 l1 l2 l3 → PX10_boundingBox_34 E post (fun h l0 l1 l2 l3 => ∃ z', z' < z ∧ I z' h l0 l1 l2 l3) h l0 l1 l2 l3) : ∀ (z : Nat) (h : AH) (l0 : Option Nat) (l1 : Int32) (l2 : Int32) (l3 : Int32), I z h l0 l1 l2 l3 → Go E X 5 0 0 34 [(0, aP l0), (1, aI l1), (2, aI l2), (3, aI l3)] [] h := by
  intro z
  induction z using Nat.strongRecOn with
  | _ z ih =>
    intro h l0 l1 l2 l3 hI
    exact bX10_boundingBox_34 C D (fun h l0 l1 l2 l3 hJ => by obtain ⟨z', hz, hi⟩ := hJ; exact ih z' hz h l0 l1 l2 l3 hi) (step z h l0 l1 l2 l3 hI)
def PX10_boundingBox_0 (E : EV) (post : Option AV → AH → Prop) (J34 : AH → Option Nat → Int32 → Int32 → Int32 → Prop) (h : AH) (l0 : Option Nat) (l1 : Int32) : Prop :=
  (l1 < 0 → post (some (aI (-1000001 : Int32))) h) ∧ (¬ l1 < 0 → (l1 ≤ (3 : Int32) → rdP h l0 10 5 fun x1 => rdI h x1 8 5 fun x2 => (¬ x2 = 0 → CV (sX10_itemSide E) l0 10 [aI (0 : Int32), aI l1] h (kI fun x3 h4 => J34 h4 l0 l1 x3 (1 : Int32))) ∧ (x2 = 0 → post (some (aI (-1000009 : Int32))) h)) ∧ (¬ l1 ≤ (3 : Int32) → post (some (aI (-1000001 : Int32))) h))
theorem bX10_boundingBox_0 {E : EV} {X : AX} {post : Option AV → AH → Prop} (C : Cb E X cX10_boundingBox RX10 5 rmX10_boundingBox) (D : Cr E X (some .int) rmX10_boundingBox "boundingBox" post) {J34 : AH → Option Nat → Int32 → Int32 → Int32 → Prop} (g34 : ∀ (h : AH) (l0 : Option Nat) (l1 : Int32) (l2 : Int32) (l3 : Int32), J34 h l0 l1 l2 l3 → Go E X 5 0 0 34 [(0, aP l0), (1, aI l1), (2, aI l2), (3, aI l3)] [] h) {h : AH} {l0 : Option Nat} {l1 : Int32} (w : PX10_boundingBox_0 E post J34 h l0 l1) : Go E X 5 0 0 0 [(0, aP l0), (1, aI l1)] [] h := by
  unfold PX10_boundingBox_0 at w
  refine r_iload_n C dX10_boundingBox_0 rfl 1 rfl ?_
  refine r_if_lt C dX10_boundingBox_1 (tgt := 9) rfl (fun hc => ?_) (fun hc => ?_)
  · have w := w.1 hc
    refine r_ldc (v := -1000001) C dX10_boundingBox_9 k349 ?_
    exact r_iret C D rfl (Nat.zero_le _) (Nat.zero_le _) dX10_boundingBox_11 w
  · have w := w.2 hc
    refine r_iload_n C dX10_boundingBox_4 rfl 1 rfl ?_
    refine r_iconst (v := 3) C dX10_boundingBox_5 rfl ?_
    refine r_icmp_le C dX10_boundingBox_6 (tgt := 12) rfl (fun hc => ?_) (fun hc => ?_)
    · have w := w.1 hc
      refine r_aload_n C dX10_boundingBox_12 rfl 0 rfl ?_
      refine r_getP C fcX10 (f := 5) (by decide) rfl k313 dX10_boundingBox_13 (w.mono fun x1 w => ?_)
      refine r_getI C fcX8 (f := 5) (by decide) rfl k258 dX10_boundingBox_16 (w.mono fun x2 w => ?_)
      refine r_if_ne C dX10_boundingBox_19 (tgt := 25) rfl (fun hc => ?_) (fun hc => ?_)
      · have w := w.1 hc
        refine r_aload_n C dX10_boundingBox_25 rfl 0 rfl ?_
        refine r_iconst (v := 0) C dX10_boundingBox_26 rfl ?_
        refine r_iload_n C dX10_boundingBox_27 rfl 1 rfl ?_
        refine r_cvI (rm' := rmX10_itemSide) C mX10_itemSide vX10_itemSide k538 [aI (0 : Int32), aI l1] [] rfl rfl (Nat.le_of_ble_eq_true rfl) (by decide) ⟨Nat.zero_le _, Nat.zero_le _⟩ 0 0 rfl rfl dX10_boundingBox_28 w (fun x3 h4 w => ?_)
        refine r_istore_n C dX10_boundingBox_31 rfl (by decide) rfl ?_
        refine r_iconst (v := 1) C dX10_boundingBox_32 rfl ?_
        refine r_istore_n C dX10_boundingBox_33 rfl (by decide) rfl ?_
        exact r_sub [2, 3, 1, 0] rfl (g34 h4 l0 l1 x3 (1 : Int32) w)
      · have w := w.2 hc
        refine r_ldc (v := -1000009) C dX10_boundingBox_22 k537 ?_
        exact r_iret C D rfl (Nat.zero_le _) (Nat.zero_le _) dX10_boundingBox_24 w
    · have w := w.2 hc
      refine r_ldc (v := -1000001) C dX10_boundingBox_9 k349 ?_
      exact r_iret C D rfl (Nat.zero_le _) (Nat.zero_le _) dX10_boundingBox_11 w
theorem eX10_boundingBox {E : EV} {post : Option AV → AH → Prop} {h : AH} {l0 : Option Nat} {l1 : Int32} {J34 : AH → Option Nat → Int32 → Int32 → Int32 → Prop} (g34 : ∀ X : AX, Cb E X cX10_boundingBox RX10 5 rmX10_boundingBox → Cr E X (some .int) rmX10_boundingBox "boundingBox" post → ∀ (h : AH) (l0 : Option Nat) (l1 : Int32) (l2 : Int32) (l3 : Int32), J34 h l0 l1 l2 l3 → Go E X 5 0 0 34 [(0, aP l0), (1, aI l1), (2, aI l2), (3, aI l3)] [] h) (w : PX10_boundingBox_0 E post J34 h l0 l1) : sX10_boundingBox E [aP l0, aI l1] h post := Spec.of RX10 rfl rfl (Nat.le_of_ble_eq_true rfl) fun X C D => bX10_boundingBox_0 C D (g34 X C D) w
theorem dX10_isSlot_0 : decode cX10_isSlot 0 = .ok (.iload_n 0, 1) := by decide +kernel
theorem dX10_isSlot_1 : decode cX10_isSlot 1 = .ok (.ifCond .lt 12, 3) := by decide +kernel
theorem dX10_isSlot_4 : decode cX10_isSlot 4 = .ok (.iload_n 0, 1) := by decide +kernel
theorem dX10_isSlot_5 : decode cX10_isSlot 5 = .ok (.iconst 4, 1) := by decide +kernel
theorem dX10_isSlot_6 : decode cX10_isSlot 6 = .ok (.if_icmp .ge 7, 3) := by decide +kernel
theorem dX10_isSlot_9 : decode cX10_isSlot 9 = .ok (.iconst 1, 1) := by decide +kernel
theorem dX10_isSlot_10 : decode cX10_isSlot 10 = .ok (.goto 4, 3) := by decide +kernel
theorem dX10_isSlot_13 : decode cX10_isSlot 13 = .ok (.iconst 0, 1) := by decide +kernel
theorem dX10_isSlot_14 : decode cX10_isSlot 14 = .ok (.ireturn, 1) := by decide +kernel
abbrev rmX10_isSlot : Room := { frames := 0, cells := 0, slots := 0, locals := 0 }
abbrev sX10_isSlot (E : EV) : List AV → AH → (Option AV → AH → Prop) → Prop := Spec E yX10_isSlot cX10_isSlot 1 (some .boolean) rmX10_isSlot
theorem mX10_isSlot : Mt yX10_isSlot cX10_isSlot 1 (some .boolean) 1 := ⟨k589, k1, by decide +kernel⟩
theorem vX10_isSlot : MtS yX10_isSlot := k588
def PX10_isSlot_0 (E : EV) (post : Option AV → AH → Prop) (h : AH) (l0 : Int32) : Prop :=
  (l0 < 0 → post (some (aI (0 : Int32))) h) ∧ (¬ l0 < 0 → ((4 : Int32) ≤ l0 → post (some (aI (0 : Int32))) h) ∧ (¬ (4 : Int32) ≤ l0 → post (some (aI (1 : Int32))) h))
theorem bX10_isSlot_0 {E : EV} {X : AX} {post : Option AV → AH → Prop} (C : Cb E X cX10_isSlot RX10 1 rmX10_isSlot) (D : Cr E X (some .boolean) rmX10_isSlot "isSlot" post) {h : AH} {l0 : Int32} (w : PX10_isSlot_0 E post h l0) : Go E X 1 0 0 0 [(0, aI l0)] [] h := by
  unfold PX10_isSlot_0 at w
  refine r_iload_n C dX10_isSlot_0 rfl 0 rfl ?_
  refine r_if_lt C dX10_isSlot_1 (tgt := 13) rfl (fun hc => ?_) (fun hc => ?_)
  · have w := w.1 hc
    refine r_iconst (v := 0) C dX10_isSlot_13 rfl ?_
    exact r_zret C D rfl (Or.inl rfl) (Nat.zero_le _) (Nat.zero_le _) dX10_isSlot_14 w
  · have w := w.2 hc
    refine r_iload_n C dX10_isSlot_4 rfl 0 rfl ?_
    refine r_iconst (v := 4) C dX10_isSlot_5 rfl ?_
    refine r_icmp_ge C dX10_isSlot_6 (tgt := 13) rfl (fun hc => ?_) (fun hc => ?_)
    · have w := w.1 hc
      refine r_iconst (v := 0) C dX10_isSlot_13 rfl ?_
      exact r_zret C D rfl (Or.inl rfl) (Nat.zero_le _) (Nat.zero_le _) dX10_isSlot_14 w
    · have w := w.2 hc
      refine r_iconst (v := 1) C dX10_isSlot_9 rfl ?_
      refine r_goto C dX10_isSlot_10 (tgt := 14) rfl ?_
      exact r_zret C D rfl (Or.inr rfl) (Nat.zero_le _) (Nat.zero_le _) dX10_isSlot_14 w
theorem eX10_isSlot {E : EV} {post : Option AV → AH → Prop} {h : AH} {l0 : Int32} (w : PX10_isSlot_0 E post h l0) : sX10_isSlot E [aI l0] h post := Spec.of RX10 rfl rfl (Nat.le_of_ble_eq_true rfl) fun X C D => bX10_isSlot_0 C D w
theorem dX10_clearShape_0 : decode cX10_clearShape 0 = .ok (.iload_n 1, 1) := by decide +kernel
theorem dX10_clearShape_1 : decode cX10_clearShape 1 = .ok (.invokestatic 98, 3) := by decide +kernel
theorem dX10_clearShape_4 : decode cX10_clearShape 4 = .ok (.ifCond .ne 6, 3) := by decide +kernel
theorem dX10_clearShape_7 : decode cX10_clearShape 7 = .ok (.ldc 88, 2) := by decide +kernel
theorem dX10_clearShape_9 : decode cX10_clearShape 9 = .ok (.ireturn, 1) := by decide +kernel
theorem dX10_clearShape_10 : decode cX10_clearShape 10 = .ok (.aload_n 0, 1) := by decide +kernel
theorem dX10_clearShape_11 : decode cX10_clearShape 11 = .ok (.getfield 52, 3) := by decide +kernel
theorem dX10_clearShape_14 : decode cX10_clearShape 14 = .ok (.iload_n 1, 1) := by decide +kernel
theorem dX10_clearShape_15 : decode cX10_clearShape 15 = .ok (.invokevirtual 116, 3) := by decide +kernel
theorem dX10_clearShape_18 : decode cX10_clearShape 18 = .ok (.astore_n 2, 1) := by decide +kernel
theorem dX10_clearShape_19 : decode cX10_clearShape 19 = .ok (.aload_n 2, 1) := by decide +kernel
theorem dX10_clearShape_20 : decode cX10_clearShape 20 = .ok (.invokevirtual 120, 3) := by decide +kernel
theorem dX10_clearShape_23 : decode cX10_clearShape 23 = .ok (.ifCond .eq 6, 3) := by decide +kernel
theorem dX10_clearShape_26 : decode cX10_clearShape 26 = .ok (.ldc 124, 2) := by decide +kernel
theorem dX10_clearShape_28 : decode cX10_clearShape 28 = .ok (.ireturn, 1) := by decide +kernel
theorem dX10_clearShape_29 : decode cX10_clearShape 29 = .ok (.aload_n 0, 1) := by decide +kernel
theorem dX10_clearShape_30 : decode cX10_clearShape 30 = .ok (.getfield 62, 3) := by decide +kernel
theorem dX10_clearShape_33 : decode cX10_clearShape 33 = .ok (.aload_n 0, 1) := by decide +kernel
theorem dX10_clearShape_34 : decode cX10_clearShape 34 = .ok (.getfield 52, 3) := by decide +kernel
theorem dX10_clearShape_37 : decode cX10_clearShape 37 = .ok (.invokevirtual 125, 3) := by decide +kernel
theorem dX10_clearShape_40 : decode cX10_clearShape 40 = .ok (.aload_n 0, 1) := by decide +kernel
theorem dX10_clearShape_41 : decode cX10_clearShape 41 = .ok (.getfield 52, 3) := by decide +kernel
theorem dX10_clearShape_44 : decode cX10_clearShape 44 = .ok (.iload_n 1, 1) := by decide +kernel
theorem dX10_clearShape_45 : decode cX10_clearShape 45 = .ok (.aload_n 0, 1) := by decide +kernel
theorem dX10_clearShape_46 : decode cX10_clearShape 46 = .ok (.getfield 52, 3) := by decide +kernel
theorem dX10_clearShape_49 : decode cX10_clearShape 49 = .ok (.getfield 129, 3) := by decide +kernel
theorem dX10_clearShape_52 : decode cX10_clearShape 52 = .ok (.invokevirtual 132, 3) := by decide +kernel
theorem dX10_clearShape_55 : decode cX10_clearShape 55 = .ok (.aload_n 2, 1) := by decide +kernel
theorem dX10_clearShape_56 : decode cX10_clearShape 56 = .ok (.getfield 136, 3) := by decide +kernel
theorem dX10_clearShape_59 : decode cX10_clearShape 59 = .ok (.ireturn, 1) := by decide +kernel
abbrev rmX10_clearShape : Room := { frames := 4, cells := 0, slots := 0, locals := 160 }
abbrev sX10_clearShape (E : EV) : List AV → AH → (Option AV → AH → Prop) → Prop := Spec E yX10_clearShape cX10_clearShape 3 (some .int) rmX10_clearShape
theorem mX10_clearShape : Mt yX10_clearShape cX10_clearShape 3 (some .int) 1 := ⟨k778, k1, by decide +kernel⟩
theorem vX10_clearShape : MtV yX10_clearShape 10 := ⟨k776, k777, by decide, (RX10, TX10, 12), rfl, rfl⟩
def PX10_clearShape_0 (E : EV) (post : Option AV → AH → Prop) (h : AH) (l0 : Option Nat) (l1 : Int32) : Prop :=
  CS (sX10_isSlot E) [aI l1] h (kI fun x1 h2 => (¬ x1 = 0 → rdP h2 l0 10 5 fun x3 => CV (sX8_slot E) x3 8 [aI l1] h2 (kP fun x4 h5 => CV (sX6_isEmpty E) x4 6 [] h5 (kI fun x7 h8 => (x7 = 0 → rdP h8 l0 10 7 fun x9 => rdP h8 l0 10 5 fun x10 => CV (sX1_save E) x9 1 [aP x10] h8 (kV fun h12 => rdP h12 l0 10 5 fun x13 => rdP h12 l0 10 5 fun x14 => rdP h12 x14 8 0 fun x15 => CV (sX8_setSlot E) x13 8 [aI l1, aP x15] h12 (kV fun h17 => rdI h17 x4 6 3 fun x18 => post (some (aI x18)) h17))) ∧ (¬ x7 = 0 → post (some (aI (-1000002 : Int32))) h8)))) ∧ (x1 = 0 → post (some (aI (-1000001 : Int32))) h2))
theorem bX10_clearShape_0 {E : EV} {X : AX} {post : Option AV → AH → Prop} (C : Cb E X cX10_clearShape RX10 3 rmX10_clearShape) (D : Cr E X (some .int) rmX10_clearShape "clearShape" post) {h : AH} {l0 : Option Nat} {l1 : Int32} (w : PX10_clearShape_0 E post h l0 l1) : Go E X 3 0 0 0 [(0, aP l0), (1, aI l1)] [] h := by
  unfold PX10_clearShape_0 at w
  refine r_iload_n C dX10_clearShape_0 rfl 1 rfl ?_
  refine r_csI (rm' := rmX10_isSlot) C mX10_isSlot vX10_isSlot k587 [aI l1] [] rfl rfl (Nat.le_of_ble_eq_true rfl) (by decide) ⟨Nat.zero_le _, Nat.zero_le _⟩ 0 0 rfl rfl dX10_clearShape_1 w (fun x1 h2 w => ?_)
  refine r_if_ne C dX10_clearShape_4 (tgt := 10) rfl (fun hc => ?_) (fun hc => ?_)
  · have w := w.1 hc
    refine r_aload_n C dX10_clearShape_10 rfl 0 rfl ?_
    refine r_getP C fcX10 (f := 5) (by decide) rfl k313 dX10_clearShape_11 (w.mono fun x3 w => ?_)
    refine r_iload_n C dX10_clearShape_14 rfl 1 rfl ?_
    refine r_cvP (rm' := rmX8_slot) C mX8_slot vX8_slot k590 [aI l1] [] rfl rfl (Nat.le_of_ble_eq_true rfl) (by decide) ⟨Nat.zero_le _, Nat.zero_le _⟩ 0 0 rfl rfl dX10_clearShape_15 w (fun x4 h5 w => ?_)
    refine r_astore_n C dX10_clearShape_18 rfl (by decide) rfl ?_
    refine r_aload_n C dX10_clearShape_19 rfl 0 rfl ?_
    refine r_cvI (rm' := rmX6_isEmpty) C mX6_isEmpty vX6_isEmpty k596 [] [] rfl rfl (Nat.le_of_ble_eq_true rfl) (by decide) ⟨Nat.zero_le _, Nat.zero_le _⟩ 0 0 rfl rfl dX10_clearShape_20 w (fun x7 h8 w => ?_)
    refine r_if_eq C dX10_clearShape_23 (tgt := 29) rfl (fun hc => ?_) (fun hc => ?_)
    · have w := w.1 hc
      refine r_aload_n C dX10_clearShape_29 rfl 1 rfl ?_
      refine r_getP C fcX10 (f := 7) (by decide) rfl k315 dX10_clearShape_30 (w.mono fun x9 w => ?_)
      refine r_aload_n C dX10_clearShape_33 rfl 1 rfl ?_
      refine r_getP C fcX10 (f := 5) (by decide) rfl k313 dX10_clearShape_34 (w.mono fun x10 w => ?_)
      refine r_cvV (rm' := rmX1_save) C mX1_save vX1_save k350 [aP x10] [] rfl rfl (Nat.le_of_ble_eq_true rfl) (by decide) ⟨Nat.zero_le _, Nat.zero_le _⟩ 0 0 rfl rfl dX10_clearShape_37 w (fun h12 w => ?_)
      refine r_aload_n C dX10_clearShape_40 rfl 1 rfl ?_
      refine r_getP C fcX10 (f := 5) (by decide) rfl k313 dX10_clearShape_41 (w.mono fun x13 w => ?_)
      refine r_iload_n C dX10_clearShape_44 rfl 2 rfl ?_
      refine r_aload_n C dX10_clearShape_45 rfl 1 rfl ?_
      refine r_getP C fcX10 (f := 5) (by decide) rfl k313 dX10_clearShape_46 (w.mono fun x14 w => ?_)
      refine r_getP C fcX8 (f := 0) (by decide) rfl k251 dX10_clearShape_49 (w.mono fun x15 w => ?_)
      refine r_cvV (rm' := rmX8_setSlot) C mX8_setSlot vX8_setSlot k767 [aI l1, aP x15] [] rfl rfl (Nat.le_of_ble_eq_true rfl) (by decide) ⟨Nat.zero_le _, Nat.zero_le _⟩ 0 0 rfl rfl dX10_clearShape_52 w (fun h17 w => ?_)
      refine r_aload_n C dX10_clearShape_55 rfl 0 rfl ?_
      refine r_getI C fcX6 (f := 3) (by decide) rfl k33 dX10_clearShape_56 (w.mono fun x18 w => ?_)
      exact r_iret C D rfl (Nat.zero_le _) (Nat.zero_le _) dX10_clearShape_59 w
    · have w := w.2 hc
      refine r_ldc (v := -1000002) C dX10_clearShape_26 k562 ?_
      exact r_iret C D rfl (Nat.zero_le _) (Nat.zero_le _) dX10_clearShape_28 w
  · have w := w.2 hc
    refine r_ldc (v := -1000001) C dX10_clearShape_7 k349 ?_
    exact r_iret C D rfl (Nat.zero_le _) (Nat.zero_le _) dX10_clearShape_9 w
theorem eX10_clearShape {E : EV} {post : Option AV → AH → Prop} {h : AH} {l0 : Option Nat} {l1 : Int32} (w : PX10_clearShape_0 E post h l0 l1) : sX10_clearShape E [aP l0, aI l1] h post := Spec.of RX10 rfl rfl (Nat.le_of_ble_eq_true rfl) fun X C D => bX10_clearShape_0 C D w
theorem dX10_clearText_0 : decode cX10_clearText 0 = .ok (.aload_n 0, 1) := by decide +kernel
theorem dX10_clearText_1 : decode cX10_clearText 1 = .ok (.getfield 13, 3) := by decide +kernel
theorem dX10_clearText_4 : decode cX10_clearText 4 = .ok (.getfield 89, 3) := by decide +kernel
theorem dX10_clearText_7 : decode cX10_clearText 7 = .ok (.istore_n 1, 1) := by decide +kernel
theorem dX10_clearText_8 : decode cX10_clearText 8 = .ok (.aload_n 0, 1) := by decide +kernel
theorem dX10_clearText_9 : decode cX10_clearText 9 = .ok (.getfield 13, 3) := by decide +kernel
theorem dX10_clearText_12 : decode cX10_clearText 12 = .ok (.iconst 0, 1) := by decide +kernel
theorem dX10_clearText_13 : decode cX10_clearText 13 = .ok (.putfield 89, 3) := by decide +kernel
theorem dX10_clearText_16 : decode cX10_clearText 16 = .ok (.iload_n 1, 1) := by decide +kernel
theorem dX10_clearText_17 : decode cX10_clearText 17 = .ok (.ireturn, 1) := by decide +kernel
abbrev rmX10_clearText : Room := { frames := 0, cells := 0, slots := 0, locals := 0 }
abbrev sX10_clearText (E : EV) : List AV → AH → (Option AV → AH → Prop) → Prop := Spec E yX10_clearText cX10_clearText 2 (some .int) rmX10_clearText
theorem mX10_clearText : Mt yX10_clearText cX10_clearText 2 (some .int) 0 := ⟨k677, k1, by decide +kernel⟩
theorem vX10_clearText : MtV yX10_clearText 10 := ⟨k675, k676, by decide, (RX10, TX10, 12), rfl, rfl⟩
def PX10_clearText_0 (E : EV) (post : Option AV → AH → Prop) (h : AH) (l0 : Option Nat) : Prop :=
  rdP h l0 10 0 fun x1 => rdI h x1 9 1 fun x2 => rdP h l0 10 0 fun x4 => wr h x4 9 1 (aI (0 : Int32)) fun h5 => post (some (aI x2)) h5
theorem bX10_clearText_0 {E : EV} {X : AX} {post : Option AV → AH → Prop} (C : Cb E X cX10_clearText RX10 2 rmX10_clearText) (D : Cr E X (some .int) rmX10_clearText "clearText" post) {h : AH} {l0 : Option Nat} (w : PX10_clearText_0 E post h l0) : Go E X 2 0 0 0 [(0, aP l0)] [] h := by
  unfold PX10_clearText_0 at w
  refine r_aload_n C dX10_clearText_0 rfl 0 rfl ?_
  refine r_getP C fcX10 (f := 0) (by decide) rfl k308 dX10_clearText_1 (w.mono fun x1 w => ?_)
  refine r_getI C fcX9 (f := 1) (by decide) rfl k75 dX10_clearText_4 (w.mono fun x2 w => ?_)
  refine r_istore_n C dX10_clearText_7 rfl (by decide) rfl ?_
  refine r_aload_n C dX10_clearText_8 rfl 1 rfl ?_
  refine r_getP C fcX10 (f := 0) (by decide) rfl k308 dX10_clearText_9 (w.mono fun x4 w => ?_)
  refine r_iconst (v := 0) C dX10_clearText_12 rfl ?_
  refine r_put C fcX9 (f := 1) (by decide) rfl rfl rfl rfl k75 dX10_clearText_13 (w.mono fun h5 w => ?_)
  refine r_iload_n C dX10_clearText_16 rfl 0 rfl ?_
  exact r_iret C D rfl (Nat.zero_le _) (Nat.zero_le _) dX10_clearText_17 w
theorem eX10_clearText {E : EV} {post : Option AV → AH → Prop} {h : AH} {l0 : Option Nat} (w : PX10_clearText_0 E post h l0) : sX10_clearText E [aP l0] h post := Spec.of RX10 rfl rfl (Nat.le_of_ble_eq_true rfl) fun X C D => bX10_clearText_0 C D w
theorem dX10_measureItemGap_0 : decode cX10_measureItemGap 0 = .ok (.aload_n 0, 1) := by decide +kernel
theorem dX10_measureItemGap_1 : decode cX10_measureItemGap 1 = .ok (.getfield 52, 3) := by decide +kernel
theorem dX10_measureItemGap_4 : decode cX10_measureItemGap 4 = .ok (.iload_n 2, 1) := by decide +kernel
theorem dX10_measureItemGap_5 : decode cX10_measureItemGap 5 = .ok (.invokevirtual 274, 3) := by decide +kernel
theorem dX10_measureItemGap_8 : decode cX10_measureItemGap 8 = .ok (.aload_n 0, 1) := by decide +kernel
theorem dX10_measureItemGap_9 : decode cX10_measureItemGap 9 = .ok (.getfield 52, 3) := by decide +kernel
theorem dX10_measureItemGap_12 : decode cX10_measureItemGap 12 = .ok (.iload_n 1, 1) := by decide +kernel
theorem dX10_measureItemGap_13 : decode cX10_measureItemGap 13 = .ok (.invokevirtual 274, 3) := by decide +kernel
theorem dX10_measureItemGap_16 : decode cX10_measureItemGap 16 = .ok (.isub, 1) := by decide +kernel
theorem dX10_measureItemGap_17 : decode cX10_measureItemGap 17 = .ok (.istore_n 3, 1) := by decide +kernel
theorem dX10_measureItemGap_18 : decode cX10_measureItemGap 18 = .ok (.aload_n 0, 1) := by decide +kernel
theorem dX10_measureItemGap_19 : decode cX10_measureItemGap 19 = .ok (.getfield 52, 3) := by decide +kernel
theorem dX10_measureItemGap_22 : decode cX10_measureItemGap 22 = .ok (.iload_n 2, 1) := by decide +kernel
theorem dX10_measureItemGap_23 : decode cX10_measureItemGap 23 = .ok (.invokevirtual 275, 3) := by decide +kernel
theorem dX10_measureItemGap_26 : decode cX10_measureItemGap 26 = .ok (.aload_n 0, 1) := by decide +kernel
theorem dX10_measureItemGap_27 : decode cX10_measureItemGap 27 = .ok (.getfield 52, 3) := by decide +kernel
theorem dX10_measureItemGap_30 : decode cX10_measureItemGap 30 = .ok (.iload_n 1, 1) := by decide +kernel
theorem dX10_measureItemGap_31 : decode cX10_measureItemGap 31 = .ok (.invokevirtual 275, 3) := by decide +kernel
theorem dX10_measureItemGap_34 : decode cX10_measureItemGap 34 = .ok (.isub, 1) := by decide +kernel
theorem dX10_measureItemGap_35 : decode cX10_measureItemGap 35 = .ok (.istore 4, 2) := by decide +kernel
theorem dX10_measureItemGap_37 : decode cX10_measureItemGap 37 = .ok (.aload_n 0, 1) := by decide +kernel
theorem dX10_measureItemGap_38 : decode cX10_measureItemGap 38 = .ok (.getfield 36, 3) := by decide +kernel
theorem dX10_measureItemGap_41 : decode cX10_measureItemGap 41 = .ok (.aload_n 0, 1) := by decide +kernel
theorem dX10_measureItemGap_42 : decode cX10_measureItemGap 42 = .ok (.getfield 52, 3) := by decide +kernel
theorem dX10_measureItemGap_45 : decode cX10_measureItemGap 45 = .ok (.iload_n 1, 1) := by decide +kernel
theorem dX10_measureItemGap_46 : decode cX10_measureItemGap 46 = .ok (.invokevirtual 261, 3) := by decide +kernel
theorem dX10_measureItemGap_49 : decode cX10_measureItemGap 49 = .ok (.aload_n 0, 1) := by decide +kernel
theorem dX10_measureItemGap_50 : decode cX10_measureItemGap 50 = .ok (.getfield 52, 3) := by decide +kernel
theorem dX10_measureItemGap_53 : decode cX10_measureItemGap 53 = .ok (.iload_n 2, 1) := by decide +kernel
theorem dX10_measureItemGap_54 : decode cX10_measureItemGap 54 = .ok (.invokevirtual 261, 3) := by decide +kernel
theorem dX10_measureItemGap_57 : decode cX10_measureItemGap 57 = .ok (.iload_n 3, 1) := by decide +kernel
theorem dX10_measureItemGap_58 : decode cX10_measureItemGap 58 = .ok (.iload 4, 2) := by decide +kernel
theorem dX10_measureItemGap_60 : decode cX10_measureItemGap 60 = .ok (.invokevirtual 195, 3) := by decide +kernel
theorem dX10_measureItemGap_63 : decode cX10_measureItemGap 63 = .ok (.return_, 1) := by decide +kernel
abbrev rmX10_measureItemGap : Room := { frames := 5, cells := 0, slots := 0, locals := 200 }
abbrev sX10_measureItemGap (E : EV) : List AV → AH → (Option AV → AH → Prop) → Prop := Spec E yX10_measureItemGap cX10_measureItemGap 5 none rmX10_measureItemGap
theorem mX10_measureItemGap : Mt yX10_measureItemGap cX10_measureItemGap 5 none 2 := ⟨k408, k1, by decide +kernel⟩
theorem vX10_measureItemGap : MtV yX10_measureItemGap 10 := ⟨k407, kp4, by decide, (RX10, TX10, 12), rfl, rfl⟩
def PX10_measureItemGap_0 (E : EV) (post : Option AV → AH → Prop) (h : AH) (l0 : Option Nat) (l1 : Int32) (l2 : Int32) : Prop :=
  rdP h l0 10 5 fun x1 => CV (sX8_x E) x1 8 [aI l2] h (kI fun x2 h3 => rdP h3 l0 10 5 fun x4 => CV (sX8_x E) x4 8 [aI l1] h3 (kI fun x5 h6 => ∀ v7, v7 = (x2 - x5) → rdP h6 l0 10 5 fun x8 => CV (sX8_y E) x8 8 [aI l2] h6 (kI fun x9 h10 => rdP h10 l0 10 5 fun x11 => CV (sX8_y E) x11 8 [aI l1] h10 (kI fun x12 h13 => ∀ v14, v14 = (x9 - x12) → rdP h13 l0 10 3 fun x15 => rdP h13 l0 10 5 fun x16 => CV (sX8_shape E) x16 8 [aI l1] h13 (kP fun x17 h18 => rdP h18 l0 10 5 fun x19 => CV (sX8_shape E) x19 8 [aI l2] h18 (kP fun x20 h21 => CV (sX3_measureGap E) x15 3 [aP x17, aP x20, aI v7, aI v14] h21 (kV fun h23 => post none h23)))))))
theorem bX10_measureItemGap_0 {E : EV} {X : AX} {post : Option AV → AH → Prop} (C : Cb E X cX10_measureItemGap RX10 5 rmX10_measureItemGap) (D : Cr E X none rmX10_measureItemGap "measureItemGap" post) {h : AH} {l0 : Option Nat} {l1 : Int32} {l2 : Int32} (w : PX10_measureItemGap_0 E post h l0 l1 l2) : Go E X 5 0 0 0 [(0, aP l0), (1, aI l1), (2, aI l2)] [] h := by
  unfold PX10_measureItemGap_0 at w
  refine r_aload_n C dX10_measureItemGap_0 rfl 0 rfl ?_
  refine r_getP C fcX10 (f := 5) (by decide) rfl k313 dX10_measureItemGap_1 (w.mono fun x1 w => ?_)
  refine r_iload_n C dX10_measureItemGap_4 rfl 2 rfl ?_
  refine r_cvI (rm' := rmX8_x) C mX8_x vX8_x k409 [aI l2] [] rfl rfl (Nat.le_of_ble_eq_true rfl) (by decide) ⟨Nat.zero_le _, Nat.zero_le _⟩ 0 0 rfl rfl dX10_measureItemGap_5 w (fun x2 h3 w => ?_)
  refine r_aload_n C dX10_measureItemGap_8 rfl 0 rfl ?_
  refine r_getP C fcX10 (f := 5) (by decide) rfl k313 dX10_measureItemGap_9 (w.mono fun x4 w => ?_)
  refine r_iload_n C dX10_measureItemGap_12 rfl 1 rfl ?_
  refine r_cvI (rm' := rmX8_x) C mX8_x vX8_x k409 [aI l1] [aI x2] rfl rfl (Nat.le_of_ble_eq_true rfl) (by decide) ⟨Nat.zero_le _, Nat.zero_le _⟩ 0 0 rfl rfl dX10_measureItemGap_13 w (fun x5 h6 w => ?_)
  refine r_isub C dX10_measureItemGap_16 ?_
  refine r_istore_n C dX10_measureItemGap_17 rfl (by decide) rfl ?_
  have w := w _ rfl
  refine r_aload_n C dX10_measureItemGap_18 rfl 1 rfl ?_
  refine r_getP C fcX10 (f := 5) (by decide) rfl k313 dX10_measureItemGap_19 (w.mono fun x8 w => ?_)
  refine r_iload_n C dX10_measureItemGap_22 rfl 3 rfl ?_
  refine r_cvI (rm' := rmX8_y) C mX8_y vX8_y k410 [aI l2] [] rfl rfl (Nat.le_of_ble_eq_true rfl) (by decide) ⟨Nat.zero_le _, Nat.zero_le _⟩ 0 0 rfl rfl dX10_measureItemGap_23 w (fun x9 h10 w => ?_)
  refine r_aload_n C dX10_measureItemGap_26 rfl 1 rfl ?_
  refine r_getP C fcX10 (f := 5) (by decide) rfl k313 dX10_measureItemGap_27 (w.mono fun x11 w => ?_)
  refine r_iload_n C dX10_measureItemGap_30 rfl 2 rfl ?_
  refine r_cvI (rm' := rmX8_y) C mX8_y vX8_y k410 [aI l1] [aI x9] rfl rfl (Nat.le_of_ble_eq_true rfl) (by decide) ⟨Nat.zero_le _, Nat.zero_le _⟩ 0 0 rfl rfl dX10_measureItemGap_31 w (fun x12 h13 w => ?_)
  refine r_isub C dX10_measureItemGap_34 ?_
  refine r_istore C dX10_measureItemGap_35 (by decide) rfl ?_
  have w := w _ rfl
  refine r_aload_n C dX10_measureItemGap_37 rfl 2 rfl ?_
  refine r_getP C fcX10 (f := 3) (by decide) rfl k311 dX10_measureItemGap_38 (w.mono fun x15 w => ?_)
  refine r_aload_n C dX10_measureItemGap_41 rfl 2 rfl ?_
  refine r_getP C fcX10 (f := 5) (by decide) rfl k313 dX10_measureItemGap_42 (w.mono fun x16 w => ?_)
  refine r_iload_n C dX10_measureItemGap_45 rfl 3 rfl ?_
  refine r_cvP (rm' := rmX8_shape) C mX8_shape vX8_shape k411 [aI l1] [aP x15] rfl rfl (Nat.le_of_ble_eq_true rfl) (by decide) ⟨Nat.zero_le _, Nat.zero_le _⟩ 0 0 rfl rfl dX10_measureItemGap_46 w (fun x17 h18 w => ?_)
  refine r_aload_n C dX10_measureItemGap_49 rfl 2 rfl ?_
  refine r_getP C fcX10 (f := 5) (by decide) rfl k313 dX10_measureItemGap_50 (w.mono fun x19 w => ?_)
  refine r_iload_n C dX10_measureItemGap_53 rfl 4 rfl ?_
  refine r_cvP (rm' := rmX8_shape) C mX8_shape vX8_shape k411 [aI l2] [aP x17, aP x15] rfl rfl (Nat.le_of_ble_eq_true rfl) (by decide) ⟨Nat.zero_le _, Nat.zero_le _⟩ 0 0 rfl rfl dX10_measureItemGap_54 w (fun x20 h21 w => ?_)
  refine r_iload_n C dX10_measureItemGap_57 rfl 1 rfl ?_
  refine r_iload C dX10_measureItemGap_58 0 rfl ?_
  refine r_cvV (rm' := rmX3_measureGap) C mX3_measureGap vX3_measureGap k412 [aP x17, aP x20, aI (x2 - x5), aI (x9 - x12)] [] rfl rfl (Nat.le_of_ble_eq_true rfl) (by decide) ⟨Nat.zero_le _, Nat.zero_le _⟩ 0 0 rfl rfl dX10_measureItemGap_60 w (fun h23 w => ?_)
  exact r_vret C D rfl (Nat.zero_le _) (Nat.zero_le _) dX10_measureItemGap_63 w
theorem eX10_measureItemGap {E : EV} {post : Option AV → AH → Prop} {h : AH} {l0 : Option Nat} {l1 : Int32} {l2 : Int32} (w : PX10_measureItemGap_0 E post h l0 l1 l2) : sX10_measureItemGap E [aP l0, aI l1, aI l2] h post := Spec.of RX10 rfl rfl (Nat.le_of_ble_eq_true rfl) fun X C D => bX10_measureItemGap_0 C D w
theorem dX10_closestPair_0 : decode cX10_closestPair 0 = .ok (.ldc 160, 2) := by decide +kernel
theorem dX10_closestPair_2 : decode cX10_closestPair 2 = .ok (.istore_n 1, 1) := by decide +kernel
theorem dX10_closestPair_3 : decode cX10_closestPair 3 = .ok (.aload_n 0, 1) := by decide +kernel
theorem dX10_closestPair_4 : decode cX10_closestPair 4 = .ok (.getfield 80, 3) := by decide +kernel
theorem dX10_closestPair_7 : decode cX10_closestPair 7 = .ok (.invokevirtual 283, 3) := by decide +kernel
theorem dX10_closestPair_10 : decode cX10_closestPair 10 = .ok (.iconst 0, 1) := by decide +kernel
theorem dX10_closestPair_11 : decode cX10_closestPair 11 = .ok (.istore_n 2, 1) := by decide +kernel
theorem dX10_closestPair_12 : decode cX10_closestPair 12 = .ok (.iload_n 2, 1) := by decide +kernel
theorem dX10_closestPair_13 : decode cX10_closestPair 13 = .ok (.aload_n 0, 1) := by decide +kernel
theorem dX10_closestPair_14 : decode cX10_closestPair 14 = .ok (.getfield 52, 3) := by decide +kernel
theorem dX10_closestPair_17 : decode cX10_closestPair 17 = .ok (.getfield 218, 3) := by decide +kernel
theorem dX10_closestPair_20 : decode cX10_closestPair 20 = .ok (.if_icmp .ge 73, 3) := by decide +kernel
theorem dX10_closestPair_23 : decode cX10_closestPair 23 = .ok (.iload_n 2, 1) := by decide +kernel
theorem dX10_closestPair_24 : decode cX10_closestPair 24 = .ok (.iconst 1, 1) := by decide +kernel
theorem dX10_closestPair_25 : decode cX10_closestPair 25 = .ok (.iadd, 1) := by decide +kernel
theorem dX10_closestPair_26 : decode cX10_closestPair 26 = .ok (.istore_n 3, 1) := by decide +kernel
theorem dX10_closestPair_27 : decode cX10_closestPair 27 = .ok (.iload_n 3, 1) := by decide +kernel
theorem dX10_closestPair_28 : decode cX10_closestPair 28 = .ok (.aload_n 0, 1) := by decide +kernel
theorem dX10_closestPair_29 : decode cX10_closestPair 29 = .ok (.getfield 52, 3) := by decide +kernel
theorem dX10_closestPair_32 : decode cX10_closestPair 32 = .ok (.getfield 218, 3) := by decide +kernel
theorem dX10_closestPair_35 : decode cX10_closestPair 35 = .ok (.if_icmp .ge 52, 3) := by decide +kernel
theorem dX10_closestPair_38 : decode cX10_closestPair 38 = .ok (.aload_n 0, 1) := by decide +kernel
theorem dX10_closestPair_39 : decode cX10_closestPair 39 = .ok (.iload_n 2, 1) := by decide +kernel
theorem dX10_closestPair_40 : decode cX10_closestPair 40 = .ok (.iload_n 3, 1) := by decide +kernel
theorem dX10_closestPair_41 : decode cX10_closestPair 41 = .ok (.invokevirtual 279, 3) := by decide +kernel
theorem dX10_closestPair_44 : decode cX10_closestPair 44 = .ok (.aload_n 0, 1) := by decide +kernel
theorem dX10_closestPair_45 : decode cX10_closestPair 45 = .ok (.getfield 80, 3) := by decide +kernel
theorem dX10_closestPair_48 : decode cX10_closestPair 48 = .ok (.aload_n 0, 1) := by decide +kernel
theorem dX10_closestPair_49 : decode cX10_closestPair 49 = .ok (.getfield 36, 3) := by decide +kernel
theorem dX10_closestPair_52 : decode cX10_closestPair 52 = .ok (.getfield 199, 3) := by decide +kernel
theorem dX10_closestPair_55 : decode cX10_closestPair 55 = .ok (.getfield 286, 3) := by decide +kernel
theorem dX10_closestPair_58 : decode cX10_closestPair 58 = .ok (.aload_n 0, 1) := by decide +kernel
theorem dX10_closestPair_59 : decode cX10_closestPair 59 = .ok (.getfield 36, 3) := by decide +kernel
theorem dX10_closestPair_62 : decode cX10_closestPair 62 = .ok (.getfield 199, 3) := by decide +kernel
theorem dX10_closestPair_65 : decode cX10_closestPair 65 = .ok (.getfield 290, 3) := by decide +kernel
theorem dX10_closestPair_68 : decode cX10_closestPair 68 = .ok (.invokevirtual 293, 3) := by decide +kernel
theorem dX10_closestPair_71 : decode cX10_closestPair 71 = .ok (.ifCond .eq 10, 3) := by decide +kernel
theorem dX10_closestPair_74 : decode cX10_closestPair 74 = .ok (.bipush 10, 2) := by decide +kernel
theorem dX10_closestPair_76 : decode cX10_closestPair 76 = .ok (.iload_n 2, 1) := by decide +kernel
theorem dX10_closestPair_77 : decode cX10_closestPair 77 = .ok (.imul, 1) := by decide +kernel
theorem dX10_closestPair_78 : decode cX10_closestPair 78 = .ok (.iload_n 3, 1) := by decide +kernel
theorem dX10_closestPair_79 : decode cX10_closestPair 79 = .ok (.iadd, 1) := by decide +kernel
theorem dX10_closestPair_80 : decode cX10_closestPair 80 = .ok (.istore_n 1, 1) := by decide +kernel
theorem dX10_closestPair_81 : decode cX10_closestPair 81 = .ok (.iinc 3 1, 3) := by decide +kernel
theorem dX10_closestPair_84 : decode cX10_closestPair 84 = .ok (.goto (-57), 3) := by decide +kernel
theorem dX10_closestPair_87 : decode cX10_closestPair 87 = .ok (.iinc 2 1, 3) := by decide +kernel
theorem dX10_closestPair_90 : decode cX10_closestPair 90 = .ok (.goto (-78), 3) := by decide +kernel
theorem dX10_closestPair_93 : decode cX10_closestPair 93 = .ok (.iload_n 1, 1) := by decide +kernel
theorem dX10_closestPair_94 : decode cX10_closestPair 94 = .ok (.ireturn, 1) := by decide +kernel
abbrev rmX10_closestPair : Room := { frames := 6, cells := 0, slots := 0, locals := 240 }
abbrev sX10_closestPair (E : EV) : List AV → AH → (Option AV → AH → Prop) → Prop := Spec E yX10_closestPair cX10_closestPair 4 (some .int) rmX10_closestPair
theorem mX10_closestPair : Mt yX10_closestPair cX10_closestPair 4 (some .int) 0 := ⟨k626, k1, by decide +kernel⟩
theorem vX10_closestPair : MtV yX10_closestPair 10 := ⟨k624, k625, by decide, (RX10, TX10, 12), rfl, rfl⟩
def PX10_closestPair_27 (E : EV) (post : Option AV → AH → Prop) (J12 : AH → Option Nat → Int32 → Int32 → Prop) (J27 : AH → Option Nat → Int32 → Int32 → Int32 → Prop) (h : AH) (l0 : Option Nat) (l1 : Int32) (l2 : Int32) (l3 : Int32) : Prop :=
  rdP h l0 10 5 fun x1 => rdI h x1 8 5 fun x2 => (x2 ≤ l3 → J12 h l0 l1 (l2 + (1 : Int32))) ∧ (¬ x2 ≤ l3 → CV (sX10_measureItemGap E) l0 10 [aI l2, aI l3] h (kV fun h4 => rdP h4 l0 10 10 fun x5 => rdP h4 l0 10 3 fun x6 => rdP h4 x6 3 3 fun x7 => rdJ h4 x7 0 0 fun x8 => rdP h4 l0 10 3 fun x9 => rdP h4 x9 3 3 fun x10 => rdJ h4 x10 0 1 fun x11 => CV (sX0_lowerTo E) x5 0 [aJ x8, aJ x11] h4 (kI fun x12 h13 => (x12 = 0 → J27 h13 l0 l1 l2 (l3 + (1 : Int32))) ∧ (¬ x12 = 0 → ∀ v14, v14 = (((10 : Int32) * l2) + l3) → J27 h13 l0 v14 l2 (l3 + (1 : Int32))))))
theorem bX10_closestPair_27 {E : EV} {X : AX} {post : Option AV → AH → Prop} (C : Cb E X cX10_closestPair RX10 4 rmX10_closestPair) (D : Cr E X (some .int) rmX10_closestPair "closestPair" post) {J12 : AH → Option Nat → Int32 → Int32 → Prop} (g12 : ∀ (h : AH) (l0 : Option Nat) (l1 : Int32) (l2 : Int32), J12 h l0 l1 l2 → Go E X 4 0 0 12 [(0, aP l0), (1, aI l1), (2, aI l2)] [] h) {J27 : AH → Option Nat → Int32 → Int32 → Int32 → Prop} (g27 : ∀ (h : AH) (l0 : Option Nat) (l1 : Int32) (l2 : Int32) (l3 : Int32), J27 h l0 l1 l2 l3 → Go E X 4 0 0 27 [(0, aP l0), (1, aI l1), (2, aI l2), (3, aI l3)] [] h) {h : AH} {l0 : Option Nat} {l1 : Int32} {l2 : Int32} {l3 : Int32} (w : PX10_closestPair_27 E post J12 J27 h l0 l1 l2 l3) : Go E X 4 0 0 27 [(0, aP l0), (1, aI l1), (2, aI l2), (3, aI l3)] [] h := by
  unfold PX10_closestPair_27 at w
  refine r_iload_n C dX10_closestPair_27 rfl 3 rfl ?_
  refine r_aload_n C dX10_closestPair_28 rfl 0 rfl ?_
  refine r_getP C fcX10 (f := 5) (by decide) rfl k313 dX10_closestPair_29 (w.mono fun x1 w => ?_)
  refine r_getI C fcX8 (f := 5) (by decide) rfl k258 dX10_closestPair_32 (w.mono fun x2 w => ?_)
  refine r_icmp_ge C dX10_closestPair_35 (tgt := 87) rfl (fun hc => ?_) (fun hc => ?_)
  · have w := w.1 hc
    refine r_iinc C dX10_closestPair_87 2 rfl (v := 1) rfl (by decide) rfl ?_
    refine r_goto C dX10_closestPair_90 (tgt := 12) rfl ?_
    exact r_sub [1, 2, 0] rfl (g12 h l0 l1 (l2 + (1 : Int32)) w)
  · have w := w.2 hc
    refine r_aload_n C dX10_closestPair_38 rfl 0 rfl ?_
    refine r_iload_n C dX10_closestPair_39 rfl 2 rfl ?_
    refine r_iload_n C dX10_closestPair_40 rfl 3 rfl ?_
    refine r_cvV (rm' := rmX10_measureItemGap) C mX10_measureItemGap vX10_measureItemGap k405 [aI l2, aI l3] [] rfl rfl (Nat.le_of_ble_eq_true rfl) (by decide) ⟨Nat.zero_le _, Nat.zero_le _⟩ 0 0 rfl rfl dX10_closestPair_41 w (fun h4 w => ?_)
    refine r_aload_n C dX10_closestPair_44 rfl 0 rfl ?_
    refine r_getP C fcX10 (f := 10) (by decide) rfl k318 dX10_closestPair_45 (w.mono fun x5 w => ?_)
    refine r_aload_n C dX10_closestPair_48 rfl 0 rfl ?_
    refine r_getP C fcX10 (f := 3) (by decide) rfl k311 dX10_closestPair_49 (w.mono fun x6 w => ?_)
    refine r_getP C fcX3 (f := 3) (by decide) rfl k188 dX10_closestPair_52 (w.mono fun x7 w => ?_)
    refine r_getJ C fcX0 (f := 0) (by decide) rfl k175 dX10_closestPair_55 (w.mono fun x8 w => ?_)
    refine r_aload_n C dX10_closestPair_58 rfl 0 rfl ?_
    refine r_getP C fcX10 (f := 3) (by decide) rfl k311 dX10_closestPair_59 (w.mono fun x9 w => ?_)
    refine r_getP C fcX3 (f := 3) (by decide) rfl k188 dX10_closestPair_62 (w.mono fun x10 w => ?_)
    refine r_getJ C fcX0 (f := 1) (by decide) rfl k177 dX10_closestPair_65 (w.mono fun x11 w => ?_)
    refine r_cvI (rm' := rmX0_lowerTo) C mX0_lowerTo vX0_lowerTo k628 [aJ x8, aJ x11] [] rfl rfl (Nat.le_of_ble_eq_true rfl) (by decide) ⟨Nat.zero_le _, Nat.zero_le _⟩ 0 0 rfl rfl dX10_closestPair_68 w (fun x12 h13 w => ?_)
    refine r_if_eq C dX10_closestPair_71 (tgt := 81) rfl (fun hc => ?_) (fun hc => ?_)
    · have w := w.1 hc
      refine r_iinc C dX10_closestPair_81 3 rfl (v := 1) rfl (by decide) rfl ?_
      refine r_goto C dX10_closestPair_84 (tgt := 27) rfl ?_
      exact r_sub [1, 2, 3, 0] rfl (g27 h13 l0 l1 l2 (l3 + (1 : Int32)) w)
    · have w := w.2 hc
      refine r_bipush (v := 10) C dX10_closestPair_74 rfl ?_
      refine r_iload_n C dX10_closestPair_76 rfl 2 rfl ?_
      refine r_imul C dX10_closestPair_77 ?_
      refine r_iload_n C dX10_closestPair_78 rfl 3 rfl ?_
      refine r_iadd C dX10_closestPair_79 ?_
      refine r_istore_n C dX10_closestPair_80 rfl (by decide) rfl ?_
      have w := w _ rfl
      skip
      refine r_iinc C dX10_closestPair_81 3 rfl (v := 1) rfl (by decide) rfl ?_
      refine r_goto C dX10_closestPair_84 (tgt := 27) rfl ?_
      exact r_sub [2, 1, 3, 0] rfl (g27 h13 l0 (((10 : Int32) * l2) + l3) l2 (l3 + (1 : Int32)) w)
theorem lpX10_closestPair_27 {E : EV} {X : AX} {post : Option AV → AH → Prop} (C : Cb E X cX10_closestPair RX10 4 rmX10_closestPair) (D : Cr E X (some .int) rmX10_closestPair "closestPair" post) {J12 : AH → Option Nat → Int32 → Int32 → Prop} (g12 : ∀ (h : AH) (l0 : Option Nat) (l1 : Int32) (l2 : Int32), J12 h l0 l1 l2 → Go E X 4 0 0 12 [(0, aP l0), (1, aI l1), (2, aI l2)] [] h) (I : Nat → AH → Option Nat → Int32 → Int32 → Int32 → Prop) (step : ∀ (z : Nat) (h : AH) (l0 : Option Nat) (l1 : Int32) (l2 : Int32) (l3 : Int32), I z h l0 l1 l2 l3 → PX10_closestPair_27 E post J12 (fun h l0 l1 l2 l3 => ∃ z', z' < z ∧ I z' h l0 l1 l2 l3) h l0 l1 l2 l3) : ∀ (z : Nat) (h : AH) (l0 : Option Nat) (l1 : Int32) (l2 : Int32) (l3 : Int32), I z h l0 l1 l2 l3 → Go E X 4 0 0 27 [(0, aP l0), (1, aI l1), (2, aI l2), (3, aI l3)] [] h := by
  intro z
  induction z using Nat.strongRecOn with
  | _ z ih =>
    intro h l0 l1 l2 l3 hI
    exact bX10_closestPair_27 C D g12 (fun h l0 l1 l2 l3 hJ => by obtain ⟨z', hz, hi⟩ := hJ; exact ih z' hz h l0 l1 l2 l3 hi) (step z h l0 l1 l2 l3 hI)
def PX10_closestPair_12 (E : EV) (post : Option AV → AH → Prop) (J27 : AH → Option Nat → Int32 → Int32 → Int32 → Prop) (h : AH) (l0 : Option Nat) (l1 : Int32) (l2 : Int32) : Prop :=
  rdP h l0 10 5 fun x1 => rdI h x1 8 5 fun x2 => (x2 ≤ l2 → post (some (aI l1)) h) ∧ (¬ x2 ≤ l2 → ∀ v3, v3 = (l2 + (1 : Int32)) → J27 h l0 l1 l2 v3)
theorem bX10_closestPair_12 {E : EV} {X : AX} {post : Option AV → AH → Prop} (C : Cb E X cX10_closestPair RX10 4 rmX10_closestPair) (D : Cr E X (some .int) rmX10_closestPair "closestPair" post) {J27 : AH → Option Nat → Int32 → Int32 → Int32 → Prop} (g27 : ∀ (h : AH) (l0 : Option Nat) (l1 : Int32) (l2 : Int32) (l3 : Int32), J27 h l0 l1 l2 l3 → Go E X 4 0 0 27 [(0, aP l0), (1, aI l1), (2, aI l2), (3, aI l3)] [] h) {h : AH} {l0 : Option Nat} {l1 : Int32} {l2 : Int32} (w : PX10_closestPair_12 E post J27 h l0 l1 l2) : Go E X 4 0 0 12 [(0, aP l0), (1, aI l1), (2, aI l2)] [] h := by
  unfold PX10_closestPair_12 at w
  refine r_iload_n C dX10_closestPair_12 rfl 2 rfl ?_
  refine r_aload_n C dX10_closestPair_13 rfl 0 rfl ?_
  refine r_getP C fcX10 (f := 5) (by decide) rfl k313 dX10_closestPair_14 (w.mono fun x1 w => ?_)
  refine r_getI C fcX8 (f := 5) (by decide) rfl k258 dX10_closestPair_17 (w.mono fun x2 w => ?_)
  refine r_icmp_ge C dX10_closestPair_20 (tgt := 93) rfl (fun hc => ?_) (fun hc => ?_)
  · have w := w.1 hc
    refine r_iload_n C dX10_closestPair_93 rfl 1 rfl ?_
    exact r_iret C D rfl (Nat.zero_le _) (Nat.zero_le _) dX10_closestPair_94 w
  · have w := w.2 hc
    refine r_iload_n C dX10_closestPair_23 rfl 2 rfl ?_
    refine r_iconst (v := 1) C dX10_closestPair_24 rfl ?_
    refine r_iadd C dX10_closestPair_25 ?_
    refine r_istore_n C dX10_closestPair_26 rfl (by decide) rfl ?_
    have w := w _ rfl
    skip
    exact r_sub [1, 2, 3, 0] rfl (g27 h l0 l1 l2 (l2 + (1 : Int32)) w)
def PX10_closestPair_0 (E : EV) (post : Option AV → AH → Prop) (J12 : AH → Option Nat → Int32 → Int32 → Prop) (h : AH) (l0 : Option Nat) : Prop :=
  rdP h l0 10 10 fun x2 => CV (sX0_setInfinite E) x2 0 [] h (kV fun h4 => J12 h4 l0 (-1000009 : Int32) (0 : Int32))
theorem bX10_closestPair_0 {E : EV} {X : AX} {post : Option AV → AH → Prop} (C : Cb E X cX10_closestPair RX10 4 rmX10_closestPair) (D : Cr E X (some .int) rmX10_closestPair "closestPair" post) {J12 : AH → Option Nat → Int32 → Int32 → Prop} (g12 : ∀ (h : AH) (l0 : Option Nat) (l1 : Int32) (l2 : Int32), J12 h l0 l1 l2 → Go E X 4 0 0 12 [(0, aP l0), (1, aI l1), (2, aI l2)] [] h) {h : AH} {l0 : Option Nat} (w : PX10_closestPair_0 E post J12 h l0) : Go E X 4 0 0 0 [(0, aP l0)] [] h := by
  unfold PX10_closestPair_0 at w
  refine r_ldc (v := -1000009) C dX10_closestPair_0 k537 ?_
  refine r_istore_n C dX10_closestPair_2 rfl (by decide) rfl ?_
  refine r_aload_n C dX10_closestPair_3 rfl 1 rfl ?_
  refine r_getP C fcX10 (f := 10) (by decide) rfl k318 dX10_closestPair_4 (w.mono fun x2 w => ?_)
  refine r_cvV (rm' := rmX0_setInfinite) C mX0_setInfinite vX0_setInfinite k627 [] [] rfl rfl (Nat.le_of_ble_eq_true rfl) (by decide) ⟨Nat.zero_le _, Nat.zero_le _⟩ 0 0 rfl rfl dX10_closestPair_7 w (fun h4 w => ?_)
  refine r_iconst (v := 0) C dX10_closestPair_10 rfl ?_
  refine r_istore_n C dX10_closestPair_11 rfl (by decide) rfl ?_
  exact r_sub [2, 1, 0] rfl (g12 h4 l0 (-1000009 : Int32) (0 : Int32) w)
theorem eX10_closestPair {E : EV} {post : Option AV → AH → Prop} {h : AH} {l0 : Option Nat} {J12 : AH → Option Nat → Int32 → Int32 → Prop} (g12 : ∀ X : AX, Cb E X cX10_closestPair RX10 4 rmX10_closestPair → Cr E X (some .int) rmX10_closestPair "closestPair" post → ∀ (h : AH) (l0 : Option Nat) (l1 : Int32) (l2 : Int32), J12 h l0 l1 l2 → Go E X 4 0 0 12 [(0, aP l0), (1, aI l1), (2, aI l2)] [] h) (w : PX10_closestPair_0 E post J12 h l0) : sX10_closestPair E [aP l0] h post := Spec.of RX10 rfl rfl (Nat.le_of_ble_eq_true rfl) fun X C D => bX10_closestPair_0 C D (g12 X C D) w
theorem dX10_moveItem_0 : decode cX10_moveItem 0 = .ok (.iload_n 2, 1) := by decide +kernel
theorem dX10_moveItem_1 : decode cX10_moveItem 1 = .ok (.invokestatic 171, 3) := by decide +kernel
theorem dX10_moveItem_4 : decode cX10_moveItem 4 = .ok (.istore_n 3, 1) := by decide +kernel
theorem dX10_moveItem_5 : decode cX10_moveItem 5 = .ok (.iload_n 2, 1) := by decide +kernel
theorem dX10_moveItem_6 : decode cX10_moveItem 6 = .ok (.invokestatic 174, 3) := by decide +kernel
theorem dX10_moveItem_9 : decode cX10_moveItem 9 = .ok (.istore 4, 2) := by decide +kernel
theorem dX10_moveItem_11 : decode cX10_moveItem 11 = .ok (.iconst 0, 1) := by decide +kernel
theorem dX10_moveItem_12 : decode cX10_moveItem 12 = .ok (.istore 5, 2) := by decide +kernel
theorem dX10_moveItem_14 : decode cX10_moveItem 14 = .ok (.aload_n 0, 1) := by decide +kernel
theorem dX10_moveItem_15 : decode cX10_moveItem 15 = .ok (.getfield 52, 3) := by decide +kernel
theorem dX10_moveItem_18 : decode cX10_moveItem 18 = .ok (.iload_n 1, 1) := by decide +kernel
theorem dX10_moveItem_19 : decode cX10_moveItem 19 = .ok (.invokevirtual 274, 3) := by decide +kernel
theorem dX10_moveItem_22 : decode cX10_moveItem 22 = .ok (.istore 6, 2) := by decide +kernel
theorem dX10_moveItem_24 : decode cX10_moveItem 24 = .ok (.aload_n 0, 1) := by decide +kernel
theorem dX10_moveItem_25 : decode cX10_moveItem 25 = .ok (.getfield 52, 3) := by decide +kernel
theorem dX10_moveItem_28 : decode cX10_moveItem 28 = .ok (.iload_n 1, 1) := by decide +kernel
theorem dX10_moveItem_29 : decode cX10_moveItem 29 = .ok (.invokevirtual 275, 3) := by decide +kernel
theorem dX10_moveItem_32 : decode cX10_moveItem 32 = .ok (.istore 7, 2) := by decide +kernel
theorem dX10_moveItem_34 : decode cX10_moveItem 34 = .ok (.iload 5, 2) := by decide +kernel
theorem dX10_moveItem_36 : decode cX10_moveItem 36 = .ok (.ldc_w 270, 3) := by decide +kernel
theorem dX10_moveItem_39 : decode cX10_moveItem 39 = .ok (.if_icmp .ge 41, 3) := by decide +kernel
theorem dX10_moveItem_42 : decode cX10_moveItem 42 = .ok (.aload_n 0, 1) := by decide +kernel
theorem dX10_moveItem_43 : decode cX10_moveItem 43 = .ok (.getfield 43, 3) := by decide +kernel
theorem dX10_moveItem_46 : decode cX10_moveItem 46 = .ok (.iload 6, 2) := by decide +kernel
theorem dX10_moveItem_48 : decode cX10_moveItem 48 = .ok (.iload_n 3, 1) := by decide +kernel
theorem dX10_moveItem_49 : decode cX10_moveItem 49 = .ok (.iadd, 1) := by decide +kernel
theorem dX10_moveItem_50 : decode cX10_moveItem 50 = .ok (.iload 7, 2) := by decide +kernel
theorem dX10_moveItem_52 : decode cX10_moveItem 52 = .ok (.iload 4, 2) := by decide +kernel
theorem dX10_moveItem_54 : decode cX10_moveItem 54 = .ok (.iadd, 1) := by decide +kernel
theorem dX10_moveItem_55 : decode cX10_moveItem 55 = .ok (.invokevirtual 335, 3) := by decide +kernel
theorem dX10_moveItem_58 : decode cX10_moveItem 58 = .ok (.ifCond .eq 22, 3) := by decide +kernel
theorem dX10_moveItem_61 : decode cX10_moveItem 61 = .ok (.iload 6, 2) := by decide +kernel
theorem dX10_moveItem_63 : decode cX10_moveItem 63 = .ok (.iload_n 3, 1) := by decide +kernel
theorem dX10_moveItem_64 : decode cX10_moveItem 64 = .ok (.iadd, 1) := by decide +kernel
theorem dX10_moveItem_65 : decode cX10_moveItem 65 = .ok (.istore 6, 2) := by decide +kernel
theorem dX10_moveItem_67 : decode cX10_moveItem 67 = .ok (.iload 7, 2) := by decide +kernel
theorem dX10_moveItem_69 : decode cX10_moveItem 69 = .ok (.iload 4, 2) := by decide +kernel
theorem dX10_moveItem_71 : decode cX10_moveItem 71 = .ok (.iadd, 1) := by decide +kernel
theorem dX10_moveItem_72 : decode cX10_moveItem 72 = .ok (.istore 7, 2) := by decide +kernel
theorem dX10_moveItem_74 : decode cX10_moveItem 74 = .ok (.iinc 5 1, 3) := by decide +kernel
theorem dX10_moveItem_77 : decode cX10_moveItem 77 = .ok (.goto (-43), 3) := by decide +kernel
theorem dX10_moveItem_80 : decode cX10_moveItem 80 = .ok (.aload_n 0, 1) := by decide +kernel
theorem dX10_moveItem_81 : decode cX10_moveItem 81 = .ok (.getfield 52, 3) := by decide +kernel
theorem dX10_moveItem_84 : decode cX10_moveItem 84 = .ok (.iload_n 1, 1) := by decide +kernel
theorem dX10_moveItem_85 : decode cX10_moveItem 85 = .ok (.iload 6, 2) := by decide +kernel
theorem dX10_moveItem_87 : decode cX10_moveItem 87 = .ok (.iload 7, 2) := by decide +kernel
theorem dX10_moveItem_89 : decode cX10_moveItem 89 = .ok (.invokevirtual 353, 3) := by decide +kernel
theorem dX10_moveItem_92 : decode cX10_moveItem 92 = .ok (.iload 5, 2) := by decide +kernel
theorem dX10_moveItem_94 : decode cX10_moveItem 94 = .ok (.ireturn, 1) := by decide +kernel
abbrev rmX10_moveItem : Room := { frames := 4, cells := 0, slots := 0, locals := 160 }
abbrev sX10_moveItem (E : EV) : List AV → AH → (Option AV → AH → Prop) → Prop := Spec E yX10_moveItem cX10_moveItem 8 (some .int) rmX10_moveItem
theorem mX10_moveItem : Mt yX10_moveItem cX10_moveItem 8 (some .int) 2 := ⟨k797, k1, by decide +kernel⟩
theorem vX10_moveItem : MtV yX10_moveItem 10 := ⟨k796, kp17, by decide, (RX10, TX10, 12), rfl, rfl⟩
def PX10_moveItem_80 (E : EV) (post : Option AV → AH → Prop) (h : AH) (l0 : Option Nat) (l1 : Int32) (l5 : Int32) (l6 : Int32) (l7 : Int32) : Prop :=
  rdP h l0 10 5 fun x1 => CV (sX8_setPlace E) x1 8 [aI l1, aI l6, aI l7] h (kV fun h3 => post (some (aI l5)) h3)
theorem bX10_moveItem_80 {E : EV} {X : AX} {post : Option AV → AH → Prop} (C : Cb E X cX10_moveItem RX10 8 rmX10_moveItem) (D : Cr E X (some .int) rmX10_moveItem "moveItem" post) {h : AH} {l0 : Option Nat} {l1 : Int32} {l5 : Int32} {l6 : Int32} {l7 : Int32} (w : PX10_moveItem_80 E post h l0 l1 l5 l6 l7) : Go E X 8 0 0 80 [(0, aP l0), (1, aI l1), (5, aI l5), (6, aI l6), (7, aI l7)] [] h := by
  unfold PX10_moveItem_80 at w
  refine r_aload_n C dX10_moveItem_80 rfl 0 rfl ?_
  refine r_getP C fcX10 (f := 5) (by decide) rfl k313 dX10_moveItem_81 (w.mono fun x1 w => ?_)
  refine r_iload_n C dX10_moveItem_84 rfl 1 rfl ?_
  refine r_iload C dX10_moveItem_85 3 rfl ?_
  refine r_iload C dX10_moveItem_87 4 rfl ?_
  refine r_cvV (rm' := rmX8_setPlace) C mX8_setPlace vX8_setPlace k798 [aI l1, aI l6, aI l7] [] rfl rfl (Nat.le_of_ble_eq_true rfl) (by decide) ⟨Nat.zero_le _, Nat.zero_le _⟩ 0 0 rfl rfl dX10_moveItem_89 w (fun h3 w => ?_)
  refine r_iload C dX10_moveItem_92 2 rfl ?_
  exact r_iret C D rfl (Nat.zero_le _) (Nat.zero_le _) dX10_moveItem_94 w
def PX10_moveItem_34 (E : EV) (post : Option AV → AH → Prop) (J34 : AH → Option Nat → Int32 → Int32 → Int32 → Int32 → Int32 → Int32 → Prop) (h : AH) (l0 : Option Nat) (l1 : Int32) (l3 : Int32) (l4 : Int32) (l5 : Int32) (l6 : Int32) (l7 : Int32) : Prop :=
  ((1000000 : Int32) ≤ l5 → PX10_moveItem_80 E post h l0 l1 l5 l6 l7) ∧ (¬ (1000000 : Int32) ≤ l5 → rdP h l0 10 4 fun x1 => CV (sX4_isFree E) x1 4 [aI (l6 + l3), aI (l7 + l4)] h (kI fun x2 h3 => (x2 = 0 → PX10_moveItem_80 E post h3 l0 l1 l5 l6 l7) ∧ (¬ x2 = 0 → ∀ v4, v4 = (l6 + l3) → ∀ v5, v5 = (l7 + l4) → J34 h3 l0 l1 l3 l4 (l5 + (1 : Int32)) v4 v5)))
theorem bX10_moveItem_34 {E : EV} {X : AX} {post : Option AV → AH → Prop} (C : Cb E X cX10_moveItem RX10 8 rmX10_moveItem) (D : Cr E X (some .int) rmX10_moveItem "moveItem" post) {J34 : AH → Option Nat → Int32 → Int32 → Int32 → Int32 → Int32 → Int32 → Prop} (g34 : ∀ (h : AH) (l0 : Option Nat) (l1 : Int32) (l3 : Int32) (l4 : Int32) (l5 : Int32) (l6 : Int32) (l7 : Int32), J34 h l0 l1 l3 l4 l5 l6 l7 → Go E X 8 0 0 34 [(0, aP l0), (1, aI l1), (3, aI l3), (4, aI l4), (5, aI l5), (6, aI l6), (7, aI l7)] [] h) {h : AH} {l0 : Option Nat} {l1 : Int32} {l3 : Int32} {l4 : Int32} {l5 : Int32} {l6 : Int32} {l7 : Int32} (w : PX10_moveItem_34 E post J34 h l0 l1 l3 l4 l5 l6 l7) : Go E X 8 0 0 34 [(0, aP l0), (1, aI l1), (3, aI l3), (4, aI l4), (5, aI l5), (6, aI l6), (7, aI l7)] [] h := by
  unfold PX10_moveItem_34 at w
  refine r_iload C dX10_moveItem_34 4 rfl ?_
  refine r_ldc_w (v := 1000000) C dX10_moveItem_36 k793 ?_
  refine r_icmp_ge C dX10_moveItem_39 (tgt := 80) rfl (fun hc => ?_) (fun hc => ?_)
  · have w := w.1 hc
    exact r_sub [0, 1, 4, 5, 6] rfl (bX10_moveItem_80 C D w)
  · have w := w.2 hc
    refine r_aload_n C dX10_moveItem_42 rfl 0 rfl ?_
    refine r_getP C fcX10 (f := 4) (by decide) rfl k312 dX10_moveItem_43 (w.mono fun x1 w => ?_)
    refine r_iload C dX10_moveItem_46 5 rfl ?_
    refine r_iload_n C dX10_moveItem_48 rfl 2 rfl ?_
    refine r_iadd C dX10_moveItem_49 ?_
    refine r_iload C dX10_moveItem_50 6 rfl ?_
    refine r_iload C dX10_moveItem_52 3 rfl ?_
    refine r_iadd C dX10_moveItem_54 ?_
    refine r_cvI (rm' := rmX4_isFree) C mX4_isFree vX4_isFree k788 [aI (l6 + l3), aI (l7 + l4)] [] rfl rfl (Nat.le_of_ble_eq_true rfl) (by decide) ⟨Nat.zero_le _, Nat.zero_le _⟩ 0 0 rfl rfl dX10_moveItem_55 w (fun x2 h3 w => ?_)
    refine r_if_eq C dX10_moveItem_58 (tgt := 80) rfl (fun hc => ?_) (fun hc => ?_)
    · have w := w.1 hc
      exact r_sub [0, 1, 4, 5, 6] rfl (bX10_moveItem_80 C D w)
    · have w := w.2 hc
      refine r_iload C dX10_moveItem_61 5 rfl ?_
      refine r_iload_n C dX10_moveItem_63 rfl 2 rfl ?_
      refine r_iadd C dX10_moveItem_64 ?_
      refine r_istore C dX10_moveItem_65 (by decide) rfl ?_
      have w := w _ rfl
      skip
      refine r_iload C dX10_moveItem_67 6 rfl ?_
      refine r_iload C dX10_moveItem_69 4 rfl ?_
      refine r_iadd C dX10_moveItem_71 ?_
      refine r_istore C dX10_moveItem_72 (by decide) rfl ?_
      have w := w _ rfl
      skip
      refine r_iinc C dX10_moveItem_74 6 rfl (v := 1) rfl (by decide) rfl ?_
      refine r_goto C dX10_moveItem_77 (tgt := 34) rfl ?_
      exact r_sub [3, 4, 5, 6, 0, 2, 1] rfl (g34 h3 l0 l1 l3 l4 (l5 + (1 : Int32)) (l6 + l3) (l7 + l4) w)
theorem lpX10_moveItem_34 {E : EV} {X : AX} {post : Option AV → AH → Prop} (C : Cb E X cX10_moveItem RX10 8 rmX10_moveItem) (D : Cr E X (some .int) rmX10_moveItem "moveItem" post) (I : Nat → AH → Option Nat → Int32 → Int32 → Int32 → Int32 → Int32 → Int32 → Prop) (step : ∀ (z : Nat) (h : AH) (l0 : Option Nat) (l1 : Int32) (l3 : Int32) (l4 : Int32) (l5 : Int32) (l6 : Int32) (l7 : Int32), I z h l0 l1 l3 l4 l5 l6 l7 → PX10_moveItem_34 E post (fun h l0 l1 l3 l4 l5 l6 l7 => ∃ z', z' < z ∧ I z' h l0 l1 l3 l4 l5 l6 l7) h l0 l1 l3 l4 l5 l6 l7) : ∀ (z : Nat) (h : AH) (l0 : Option Nat) (l1 : Int32) (l3 : Int32) (l4 : Int32) (l5 : Int32) (l6 : Int32) (l7 : Int32), I z h l0 l1 l3 l4 l5 l6 l7 → Go E X 8 0 0 34 [(0, aP l0), (1, aI l1), (3, aI l3), (4, aI l4), (5, aI l5), (6, aI l6), (7, aI l7)] [] h := by
  intro z
  induction z using Nat.strongRecOn with
  | _ z ih =>
    intro h l0 l1 l3 l4 l5 l6 l7 hI
    exact bX10_moveItem_34 C D (fun h l0 l1 l3 l4 l5 l6 l7 hJ => by obtain ⟨z', hz, hi⟩ := hJ; exact ih z' hz h l0 l1 l3 l4 l5 l6 l7 hi) (step z h l0 l1 l3 l4 l5 l6 l7 hI)
def PX10_moveItem_0 (E : EV) (post : Option AV → AH → Prop) (J34 : AH → Option Nat → Int32 → Int32 → Int32 → Int32 → Int32 → Int32 → Prop) (h : AH) (l0 : Option Nat) (l1 : Int32) (l2 : Int32) : Prop :=
  CS (sX10_directionX E) [aI l2] h (kI fun x1 h2 => CS (sX10_directionY E) [aI l2] h2 (kI fun x4 h5 => rdP h5 l0 10 5 fun x8 => CV (sX8_x E) x8 8 [aI l1] h5 (kI fun x9 h10 => rdP h10 l0 10 5 fun x12 => CV (sX8_y E) x12 8 [aI l1] h10 (kI fun x13 h14 => J34 h14 l0 l1 x1 x4 (0 : Int32) x9 x13))))
theorem bX10_moveItem_0 {E : EV} {X : AX} {post : Option AV → AH → Prop} (C : Cb E X cX10_moveItem RX10 8 rmX10_moveItem) (D : Cr E X (some .int) rmX10_moveItem "moveItem" post) {J34 : AH → Option Nat → Int32 → Int32 → Int32 → Int32 → Int32 → Int32 → Prop} (g34 : ∀ (h : AH) (l0 : Option Nat) (l1 : Int32) (l3 : Int32) (l4 : Int32) (l5 : Int32) (l6 : Int32) (l7 : Int32), J34 h l0 l1 l3 l4 l5 l6 l7 → Go E X 8 0 0 34 [(0, aP l0), (1, aI l1), (3, aI l3), (4, aI l4), (5, aI l5), (6, aI l6), (7, aI l7)] [] h) {h : AH} {l0 : Option Nat} {l1 : Int32} {l2 : Int32} (w : PX10_moveItem_0 E post J34 h l0 l1 l2) : Go E X 8 0 0 0 [(0, aP l0), (1, aI l1), (2, aI l2)] [] h := by
  unfold PX10_moveItem_0 at w
  refine r_iload_n C dX10_moveItem_0 rfl 2 rfl ?_
  refine r_csI (rm' := rmX10_directionX) C mX10_directionX vX10_directionX k511 [aI l2] [] rfl rfl (Nat.le_of_ble_eq_true rfl) (by decide) ⟨Nat.zero_le _, Nat.zero_le _⟩ 0 0 rfl rfl dX10_moveItem_1 w (fun x1 h2 w => ?_)
  refine r_istore_n C dX10_moveItem_4 rfl (by decide) rfl ?_
  refine r_iload_n C dX10_moveItem_5 rfl 3 rfl ?_
  refine r_csI (rm' := rmX10_directionY) C mX10_directionY vX10_directionY k516 [aI l2] [] rfl rfl (Nat.le_of_ble_eq_true rfl) (by decide) ⟨Nat.zero_le _, Nat.zero_le _⟩ 0 0 rfl rfl dX10_moveItem_6 w (fun x4 h5 w => ?_)
  refine r_istore C dX10_moveItem_9 (by decide) rfl ?_
  refine r_iconst (v := 0) C dX10_moveItem_11 rfl ?_
  refine r_istore C dX10_moveItem_12 (by decide) rfl ?_
  refine r_aload_n C dX10_moveItem_14 rfl 3 rfl ?_
  refine r_getP C fcX10 (f := 5) (by decide) rfl k313 dX10_moveItem_15 (w.mono fun x8 w => ?_)
  refine r_iload_n C dX10_moveItem_18 rfl 4 rfl ?_
  refine r_cvI (rm' := rmX8_x) C mX8_x vX8_x k409 [aI l1] [] rfl rfl (Nat.le_of_ble_eq_true rfl) (by decide) ⟨Nat.zero_le _, Nat.zero_le _⟩ 0 0 rfl rfl dX10_moveItem_19 w (fun x9 h10 w => ?_)
  refine r_istore C dX10_moveItem_22 (by decide) rfl ?_
  refine r_aload_n C dX10_moveItem_24 rfl 4 rfl ?_
  refine r_getP C fcX10 (f := 5) (by decide) rfl k313 dX10_moveItem_25 (w.mono fun x12 w => ?_)
  refine r_iload_n C dX10_moveItem_28 rfl 5 rfl ?_
  refine r_cvI (rm' := rmX8_y) C mX8_y vX8_y k410 [aI l1] [] rfl rfl (Nat.le_of_ble_eq_true rfl) (by decide) ⟨Nat.zero_le _, Nat.zero_le _⟩ 0 0 rfl rfl dX10_moveItem_29 w (fun x13 h14 w => ?_)
  refine r_istore C dX10_moveItem_32 (by decide) rfl ?_
  exact r_sub [5, 6, 4, 3, 2, 1, 0] rfl (g34 h14 l0 l1 x1 x4 (0 : Int32) x9 x13 w)
theorem eX10_moveItem {E : EV} {post : Option AV → AH → Prop} {h : AH} {l0 : Option Nat} {l1 : Int32} {l2 : Int32} {J34 : AH → Option Nat → Int32 → Int32 → Int32 → Int32 → Int32 → Int32 → Prop} (g34 : ∀ X : AX, Cb E X cX10_moveItem RX10 8 rmX10_moveItem → Cr E X (some .int) rmX10_moveItem "moveItem" post → ∀ (h : AH) (l0 : Option Nat) (l1 : Int32) (l3 : Int32) (l4 : Int32) (l5 : Int32) (l6 : Int32) (l7 : Int32), J34 h l0 l1 l3 l4 l5 l6 l7 → Go E X 8 0 0 34 [(0, aP l0), (1, aI l1), (3, aI l3), (4, aI l4), (5, aI l5), (6, aI l6), (7, aI l7)] [] h) (w : PX10_moveItem_0 E post J34 h l0 l1 l2) : sX10_moveItem E [aP l0, aI l1, aI l2] h post := Spec.of RX10 rfl rfl (Nat.le_of_ble_eq_true rfl) fun X C D => bX10_moveItem_0 C D (g34 X C D) w
theorem dX10_compact_0 : decode cX10_compact 0 = .ok (.aload_n 0, 1) := by decide +kernel
theorem dX10_compact_1 : decode cX10_compact 1 = .ok (.getfield 56, 3) := by decide +kernel
theorem dX10_compact_4 : decode cX10_compact 4 = .ok (.aload_n 0, 1) := by decide +kernel
theorem dX10_compact_5 : decode cX10_compact 5 = .ok (.getfield 52, 3) := by decide +kernel
theorem dX10_compact_8 : decode cX10_compact 8 = .ok (.invokevirtual 209, 3) := by decide +kernel
theorem dX10_compact_11 : decode cX10_compact 11 = .ok (.iconst 0, 1) := by decide +kernel
theorem dX10_compact_12 : decode cX10_compact 12 = .ok (.istore_n 1, 1) := by decide +kernel
theorem dX10_compact_13 : decode cX10_compact 13 = .ok (.iconst 1, 1) := by decide +kernel
theorem dX10_compact_14 : decode cX10_compact 14 = .ok (.istore_n 2, 1) := by decide +kernel
theorem dX10_compact_15 : decode cX10_compact 15 = .ok (.iconst 0, 1) := by decide +kernel
theorem dX10_compact_16 : decode cX10_compact 16 = .ok (.istore_n 3, 1) := by decide +kernel
theorem dX10_compact_17 : decode cX10_compact 17 = .ok (.iload_n 3, 1) := by decide +kernel
theorem dX10_compact_18 : decode cX10_compact 18 = .ok (.ldc_w 270, 3) := by decide +kernel
theorem dX10_compact_21 : decode cX10_compact 21 = .ok (.if_icmp .ge 83, 3) := by decide +kernel
theorem dX10_compact_24 : decode cX10_compact 24 = .ok (.iload_n 2, 1) := by decide +kernel
theorem dX10_compact_25 : decode cX10_compact 25 = .ok (.ifCond .le 79, 3) := by decide +kernel
theorem dX10_compact_28 : decode cX10_compact 28 = .ok (.iconst 0, 1) := by decide +kernel
theorem dX10_compact_29 : decode cX10_compact 29 = .ok (.istore_n 2, 1) := by decide +kernel
theorem dX10_compact_30 : decode cX10_compact 30 = .ok (.iconst 0, 1) := by decide +kernel
theorem dX10_compact_31 : decode cX10_compact 31 = .ok (.istore 4, 2) := by decide +kernel
theorem dX10_compact_33 : decode cX10_compact 33 = .ok (.iload 4, 2) := by decide +kernel
theorem dX10_compact_35 : decode cX10_compact 35 = .ok (.aload_n 0, 1) := by decide +kernel
theorem dX10_compact_36 : decode cX10_compact 36 = .ok (.getfield 52, 3) := by decide +kernel
theorem dX10_compact_39 : decode cX10_compact 39 = .ok (.getfield 218, 3) := by decide +kernel
theorem dX10_compact_42 : decode cX10_compact 42 = .ok (.if_icmp .ge 52, 3) := by decide +kernel
theorem dX10_compact_45 : decode cX10_compact 45 = .ok (.aload_n 0, 1) := by decide +kernel
theorem dX10_compact_46 : decode cX10_compact 46 = .ok (.getfield 43, 3) := by decide +kernel
theorem dX10_compact_49 : decode cX10_compact 49 = .ok (.aload_n 0, 1) := by decide +kernel
theorem dX10_compact_50 : decode cX10_compact 50 = .ok (.getfield 52, 3) := by decide +kernel
theorem dX10_compact_53 : decode cX10_compact 53 = .ok (.aload_n 0, 1) := by decide +kernel
theorem dX10_compact_54 : decode cX10_compact 54 = .ok (.getfield 52, 3) := by decide +kernel
theorem dX10_compact_57 : decode cX10_compact 57 = .ok (.iload 4, 2) := by decide +kernel
theorem dX10_compact_59 : decode cX10_compact 59 = .ok (.invokevirtual 261, 3) := by decide +kernel
theorem dX10_compact_62 : decode cX10_compact 62 = .ok (.iload 4, 2) := by decide +kernel
theorem dX10_compact_64 : decode cX10_compact 64 = .ok (.invokevirtual 263, 3) := by decide +kernel
theorem dX10_compact_67 : decode cX10_compact 67 = .ok (.iload_n 2, 1) := by decide +kernel
theorem dX10_compact_68 : decode cX10_compact 68 = .ok (.aload_n 0, 1) := by decide +kernel
theorem dX10_compact_69 : decode cX10_compact 69 = .ok (.iload 4, 2) := by decide +kernel
theorem dX10_compact_71 : decode cX10_compact 71 = .ok (.bipush 6, 2) := by decide +kernel
theorem dX10_compact_73 : decode cX10_compact 73 = .ok (.invokevirtual 267, 3) := by decide +kernel
theorem dX10_compact_76 : decode cX10_compact 76 = .ok (.iadd, 1) := by decide +kernel
theorem dX10_compact_77 : decode cX10_compact 77 = .ok (.istore_n 2, 1) := by decide +kernel
theorem dX10_compact_78 : decode cX10_compact 78 = .ok (.iload_n 2, 1) := by decide +kernel
theorem dX10_compact_79 : decode cX10_compact 79 = .ok (.aload_n 0, 1) := by decide +kernel
theorem dX10_compact_80 : decode cX10_compact 80 = .ok (.iload 4, 2) := by decide +kernel
theorem dX10_compact_82 : decode cX10_compact 82 = .ok (.iconst 4, 1) := by decide +kernel
theorem dX10_compact_83 : decode cX10_compact 83 = .ok (.invokevirtual 267, 3) := by decide +kernel
theorem dX10_compact_86 : decode cX10_compact 86 = .ok (.iadd, 1) := by decide +kernel
theorem dX10_compact_87 : decode cX10_compact 87 = .ok (.istore_n 2, 1) := by decide +kernel
theorem dX10_compact_88 : decode cX10_compact 88 = .ok (.iinc 4 1, 3) := by decide +kernel
theorem dX10_compact_91 : decode cX10_compact 91 = .ok (.goto (-58), 3) := by decide +kernel
theorem dX10_compact_94 : decode cX10_compact 94 = .ok (.iload_n 1, 1) := by decide +kernel
theorem dX10_compact_95 : decode cX10_compact 95 = .ok (.iload_n 2, 1) := by decide +kernel
theorem dX10_compact_96 : decode cX10_compact 96 = .ok (.iadd, 1) := by decide +kernel
theorem dX10_compact_97 : decode cX10_compact 97 = .ok (.istore_n 1, 1) := by decide +kernel
theorem dX10_compact_98 : decode cX10_compact 98 = .ok (.iinc 3 1, 3) := by decide +kernel
theorem dX10_compact_101 : decode cX10_compact 101 = .ok (.goto (-84), 3) := by decide +kernel
theorem dX10_compact_104 : decode cX10_compact 104 = .ok (.iload_n 1, 1) := by decide +kernel
theorem dX10_compact_105 : decode cX10_compact 105 = .ok (.ifCond .ne 6, 3) := by decide +kernel
theorem dX10_compact_108 : decode cX10_compact 108 = .ok (.ldc 160, 2) := by decide +kernel
theorem dX10_compact_110 : decode cX10_compact 110 = .ok (.ireturn, 1) := by decide +kernel
theorem dX10_compact_111 : decode cX10_compact 111 = .ok (.aload_n 0, 1) := by decide +kernel
theorem dX10_compact_112 : decode cX10_compact 112 = .ok (.getfield 62, 3) := by decide +kernel
theorem dX10_compact_115 : decode cX10_compact 115 = .ok (.aload_n 0, 1) := by decide +kernel
theorem dX10_compact_116 : decode cX10_compact 116 = .ok (.getfield 56, 3) := by decide +kernel
theorem dX10_compact_119 : decode cX10_compact 119 = .ok (.invokevirtual 125, 3) := by decide +kernel
theorem dX10_compact_122 : decode cX10_compact 122 = .ok (.iload_n 1, 1) := by decide +kernel
theorem dX10_compact_123 : decode cX10_compact 123 = .ok (.ireturn, 1) := by decide +kernel
abbrev rmX10_compact : Room := { frames := 5, cells := 0, slots := 0, locals := 200 }
abbrev sX10_compact (E : EV) : List AV → AH → (Option AV → AH → Prop) → Prop := Spec E yX10_compact cX10_compact 5 (some .int) rmX10_compact
theorem mX10_compact : Mt yX10_compact cX10_compact 5 (some .int) 0 := ⟨k792, k1, by decide +kernel⟩
theorem vX10_compact : MtV yX10_compact 10 := ⟨k790, k791, by decide, (RX10, TX10, 12), rfl, rfl⟩
def PX10_compact_104 (E : EV) (post : Option AV → AH → Prop) (h : AH) (l0 : Option Nat) (l1 : Int32) : Prop :=
  (¬ l1 = 0 → rdP h l0 10 7 fun x1 => rdP h l0 10 6 fun x2 => CV (sX1_save E) x1 1 [aP x2] h (kV fun h4 => post (some (aI l1)) h4)) ∧ (l1 = 0 → post (some (aI (-1000009 : Int32))) h)
theorem bX10_compact_104 {E : EV} {X : AX} {post : Option AV → AH → Prop} (C : Cb E X cX10_compact RX10 5 rmX10_compact) (D : Cr E X (some .int) rmX10_compact "compact" post) {h : AH} {l0 : Option Nat} {l1 : Int32} (w : PX10_compact_104 E post h l0 l1) : Go E X 5 0 0 104 [(0, aP l0), (1, aI l1)] [] h := by
  unfold PX10_compact_104 at w
  refine r_iload_n C dX10_compact_104 rfl 1 rfl ?_
  refine r_if_ne C dX10_compact_105 (tgt := 111) rfl (fun hc => ?_) (fun hc => ?_)
  · have w := w.1 hc
    refine r_aload_n C dX10_compact_111 rfl 0 rfl ?_
    refine r_getP C fcX10 (f := 7) (by decide) rfl k315 dX10_compact_112 (w.mono fun x1 w => ?_)
    refine r_aload_n C dX10_compact_115 rfl 0 rfl ?_
    refine r_getP C fcX10 (f := 6) (by decide) rfl k314 dX10_compact_116 (w.mono fun x2 w => ?_)
    refine r_cvV (rm' := rmX1_save) C mX1_save vX1_save k350 [aP x2] [] rfl rfl (Nat.le_of_ble_eq_true rfl) (by decide) ⟨Nat.zero_le _, Nat.zero_le _⟩ 0 0 rfl rfl dX10_compact_119 w (fun h4 w => ?_)
    refine r_iload_n C dX10_compact_122 rfl 1 rfl ?_
    exact r_iret C D rfl (Nat.zero_le _) (Nat.zero_le _) dX10_compact_123 w
  · have w := w.2 hc
    refine r_ldc (v := -1000009) C dX10_compact_108 k537 ?_
    exact r_iret C D rfl (Nat.zero_le _) (Nat.zero_le _) dX10_compact_110 w
def PX10_compact_33 (E : EV) (post : Option AV → AH → Prop) (J17 : AH → Option Nat → Int32 → Int32 → Int32 → Prop) (J33 : AH → Option Nat → Int32 → Int32 → Int32 → Int32 → Prop) (h : AH) (l0 : Option Nat) (l1 : Int32) (l2 : Int32) (l3 : Int32) (l4 : Int32) : Prop :=
  rdP h l0 10 5 fun x1 => rdI h x1 8 5 fun x2 => (x2 ≤ l4 → ∀ v3, v3 = (l1 + l2) → J17 h l0 v3 l2 (l3 + (1 : Int32))) ∧ (¬ x2 ≤ l4 → rdP h l0 10 4 fun x3 => rdP h l0 10 5 fun x4 => rdP h l0 10 5 fun x5 => CV (sX8_shape E) x5 8 [aI l4] h (kP fun x6 h7 => CV (sX4_prepare E) x3 4 [aP x4, aP x6, aI l4] h7 (kV fun h9 => CV (sX10_moveItem E) l0 10 [aI l4, aI (6 : Int32)] h9 (kI fun x10 h11 => ∀ v12, v12 = (l2 + x10) → CV (sX10_moveItem E) l0 10 [aI l4, aI (4 : Int32)] h11 (kI fun x13 h14 => ∀ v15, v15 = (v12 + x13) → J33 h14 l0 l1 v15 l3 (l4 + (1 : Int32)))))))
theorem bX10_compact_33 {E : EV} {X : AX} {post : Option AV → AH → Prop} (C : Cb E X cX10_compact RX10 5 rmX10_compact) (D : Cr E X (some .int) rmX10_compact "compact" post) {J17 : AH → Option Nat → Int32 → Int32 → Int32 → Prop} (g17 : ∀ (h : AH) (l0 : Option Nat) (l1 : Int32) (l2 : Int32) (l3 : Int32), J17 h l0 l1 l2 l3 → Go E X 5 0 0 17 [(0, aP l0), (1, aI l1), (2, aI l2), (3, aI l3)] [] h) {J33 : AH → Option Nat → Int32 → Int32 → Int32 → Int32 → Prop} (g33 : ∀ (h : AH) (l0 : Option Nat) (l1 : Int32) (l2 : Int32) (l3 : Int32) (l4 : Int32), J33 h l0 l1 l2 l3 l4 → Go E X 5 0 0 33 [(0, aP l0), (1, aI l1), (2, aI l2), (3, aI l3), (4, aI l4)] [] h) {h : AH} {l0 : Option Nat} {l1 : Int32} {l2 : Int32} {l3 : Int32} {l4 : Int32} (w : PX10_compact_33 E post J17 J33 h l0 l1 l2 l3 l4) : Go E X 5 0 0 33 [(0, aP l0), (1, aI l1), (2, aI l2), (3, aI l3), (4, aI l4)] [] h := by
  unfold PX10_compact_33 at w
  refine r_iload C dX10_compact_33 4 rfl ?_
  refine r_aload_n C dX10_compact_35 rfl 0 rfl ?_
  refine r_getP C fcX10 (f := 5) (by decide) rfl k313 dX10_compact_36 (w.mono fun x1 w => ?_)
  refine r_getI C fcX8 (f := 5) (by decide) rfl k258 dX10_compact_39 (w.mono fun x2 w => ?_)
  refine r_icmp_ge C dX10_compact_42 (tgt := 94) rfl (fun hc => ?_) (fun hc => ?_)
  · have w := w.1 hc
    refine r_iload_n C dX10_compact_94 rfl 1 rfl ?_
    refine r_iload_n C dX10_compact_95 rfl 2 rfl ?_
    refine r_iadd C dX10_compact_96 ?_
    refine r_istore_n C dX10_compact_97 rfl (by decide) rfl ?_
    have w := w _ rfl
    skip
    refine r_iinc C dX10_compact_98 3 rfl (v := 1) rfl (by decide) rfl ?_
    refine r_goto C dX10_compact_101 (tgt := 17) rfl ?_
    exact r_sub [2, 1, 3, 0] rfl (g17 h l0 (l1 + l2) l2 (l3 + (1 : Int32)) w)
  · have w := w.2 hc
    refine r_aload_n C dX10_compact_45 rfl 0 rfl ?_
    refine r_getP C fcX10 (f := 4) (by decide) rfl k312 dX10_compact_46 (w.mono fun x3 w => ?_)
    refine r_aload_n C dX10_compact_49 rfl 0 rfl ?_
    refine r_getP C fcX10 (f := 5) (by decide) rfl k313 dX10_compact_50 (w.mono fun x4 w => ?_)
    refine r_aload_n C dX10_compact_53 rfl 0 rfl ?_
    refine r_getP C fcX10 (f := 5) (by decide) rfl k313 dX10_compact_54 (w.mono fun x5 w => ?_)
    refine r_iload C dX10_compact_57 4 rfl ?_
    refine r_cvP (rm' := rmX8_shape) C mX8_shape vX8_shape k411 [aI l4] [aP x4, aP x3] rfl rfl (Nat.le_of_ble_eq_true rfl) (by decide) ⟨Nat.zero_le _, Nat.zero_le _⟩ 0 0 rfl rfl dX10_compact_59 w (fun x6 h7 w => ?_)
    refine r_iload C dX10_compact_62 4 rfl ?_
    refine r_cvV (rm' := rmX4_prepare) C mX4_prepare vX4_prepare k637 [aP x4, aP x6, aI l4] [] rfl rfl (Nat.le_of_ble_eq_true rfl) (by decide) ⟨Nat.zero_le _, Nat.zero_le _⟩ 0 0 rfl rfl dX10_compact_64 w (fun h9 w => ?_)
    refine r_iload_n C dX10_compact_67 rfl 2 rfl ?_
    refine r_aload_n C dX10_compact_68 rfl 0 rfl ?_
    refine r_iload C dX10_compact_69 4 rfl ?_
    refine r_bipush (v := 6) C dX10_compact_71 rfl ?_
    refine r_cvI (rm' := rmX10_moveItem) C mX10_moveItem vX10_moveItem k794 [aI l4, aI (6 : Int32)] [aI l2] rfl rfl (Nat.le_of_ble_eq_true rfl) (by decide) ⟨Nat.zero_le _, Nat.zero_le _⟩ 0 0 rfl rfl dX10_compact_73 w (fun x10 h11 w => ?_)
    refine r_iadd C dX10_compact_76 ?_
    refine r_istore_n C dX10_compact_77 rfl (by decide) rfl ?_
    have w := w _ rfl
    skip
    refine r_iload_n C dX10_compact_78 rfl 0 rfl ?_
    refine r_aload_n C dX10_compact_79 rfl 1 rfl ?_
    refine r_iload C dX10_compact_80 4 rfl ?_
    refine r_iconst (v := 4) C dX10_compact_82 rfl ?_
    refine r_cvI (rm' := rmX10_moveItem) C mX10_moveItem vX10_moveItem k794 [aI l4, aI (4 : Int32)] [aI (l2 + x10)] rfl rfl (Nat.le_of_ble_eq_true rfl) (by decide) ⟨Nat.zero_le _, Nat.zero_le _⟩ 0 0 rfl rfl dX10_compact_83 w (fun x13 h14 w => ?_)
    refine r_iadd C dX10_compact_86 ?_
    refine r_istore_n C dX10_compact_87 rfl (by decide) rfl ?_
    have w := w _ rfl
    skip
    refine r_iinc C dX10_compact_88 4 rfl (v := 1) rfl (by decide) rfl ?_
    refine r_goto C dX10_compact_91 (tgt := 33) rfl ?_
    exact r_sub [2, 3, 1, 4, 0] rfl (g33 h14 l0 l1 ((l2 + x10) + x13) l3 (l4 + (1 : Int32)) w)
theorem lpX10_compact_33 {E : EV} {X : AX} {post : Option AV → AH → Prop} (C : Cb E X cX10_compact RX10 5 rmX10_compact) (D : Cr E X (some .int) rmX10_compact "compact" post) {J17 : AH → Option Nat → Int32 → Int32 → Int32 → Prop} (g17 : ∀ (h : AH) (l0 : Option Nat) (l1 : Int32) (l2 : Int32) (l3 : Int32), J17 h l0 l1 l2 l3 → Go E X 5 0 0 17 [(0, aP l0), (1, aI l1), (2, aI l2), (3, aI l3)] [] h) (I : Nat → AH → Option Nat → Int32 → Int32 → Int32 → Int32 → Prop) (step : ∀ (z : Nat) (h : AH) (l0 : Option Nat) (l1 : Int32) (l2 : Int32) (l3 : Int32) (l4 : Int32), I z h l0 l1 l2 l3 l4 → PX10_compact_33 E post J17 (fun h l0 l1 l2 l3 l4 => ∃ z', z' < z ∧ I z' h l0 l1 l2 l3 l4) h l0 l1 l2 l3 l4) : ∀ (z : Nat) (h : AH) (l0 : Option Nat) (l1 : Int32) (l2 : Int32) (l3 : Int32) (l4 : Int32), I z h l0 l1 l2 l3 l4 → Go E X 5 0 0 33 [(0, aP l0), (1, aI l1), (2, aI l2), (3, aI l3), (4, aI l4)] [] h := by
  intro z
  induction z using Nat.strongRecOn with
  | _ z ih =>
    intro h l0 l1 l2 l3 l4 hI
    exact bX10_compact_33 C D g17 (fun h l0 l1 l2 l3 l4 hJ => by obtain ⟨z', hz, hi⟩ := hJ; exact ih z' hz h l0 l1 l2 l3 l4 hi) (step z h l0 l1 l2 l3 l4 hI)
def PX10_compact_17 (E : EV) (post : Option AV → AH → Prop) (J33 : AH → Option Nat → Int32 → Int32 → Int32 → Int32 → Prop) (h : AH) (l0 : Option Nat) (l1 : Int32) (l2 : Int32) (l3 : Int32) : Prop :=
  ((1000000 : Int32) ≤ l3 → PX10_compact_104 E post h l0 l1) ∧ (¬ (1000000 : Int32) ≤ l3 → (l2 ≤ 0 → PX10_compact_104 E post h l0 l1) ∧ (¬ l2 ≤ 0 → J33 h l0 l1 (0 : Int32) l3 (0 : Int32)))
theorem bX10_compact_17 {E : EV} {X : AX} {post : Option AV → AH → Prop} (C : Cb E X cX10_compact RX10 5 rmX10_compact) (D : Cr E X (some .int) rmX10_compact "compact" post) {J33 : AH → Option Nat → Int32 → Int32 → Int32 → Int32 → Prop} (g33 : ∀ (h : AH) (l0 : Option Nat) (l1 : Int32) (l2 : Int32) (l3 : Int32) (l4 : Int32), J33 h l0 l1 l2 l3 l4 → Go E X 5 0 0 33 [(0, aP l0), (1, aI l1), (2, aI l2), (3, aI l3), (4, aI l4)] [] h) {h : AH} {l0 : Option Nat} {l1 : Int32} {l2 : Int32} {l3 : Int32} (w : PX10_compact_17 E post J33 h l0 l1 l2 l3) : Go E X 5 0 0 17 [(0, aP l0), (1, aI l1), (2, aI l2), (3, aI l3)] [] h := by
  unfold PX10_compact_17 at w
  refine r_iload_n C dX10_compact_17 rfl 3 rfl ?_
  refine r_ldc_w (v := 1000000) C dX10_compact_18 k793 ?_
  refine r_icmp_ge C dX10_compact_21 (tgt := 104) rfl (fun hc => ?_) (fun hc => ?_)
  · have w := w.1 hc
    exact r_sub [0, 1] rfl (bX10_compact_104 C D w)
  · have w := w.2 hc
    refine r_iload_n C dX10_compact_24 rfl 2 rfl ?_
    refine r_if_le C dX10_compact_25 (tgt := 104) rfl (fun hc => ?_) (fun hc => ?_)
    · have w := w.1 hc
      exact r_sub [0, 1] rfl (bX10_compact_104 C D w)
    · have w := w.2 hc
      refine r_iconst (v := 0) C dX10_compact_28 rfl ?_
      refine r_istore_n C dX10_compact_29 rfl (by decide) rfl ?_
      refine r_iconst (v := 0) C dX10_compact_30 rfl ?_
      refine r_istore C dX10_compact_31 (by decide) rfl ?_
      exact r_sub [2, 3, 1, 4, 0] rfl (g33 h l0 l1 (0 : Int32) l3 (0 : Int32) w)
def PX10_compact_0 (E : EV) (post : Option AV → AH → Prop) (J17 : AH → Option Nat → Int32 → Int32 → Int32 → Prop) (h : AH) (l0 : Option Nat) : Prop :=
  rdP h l0 10 6 fun x1 => rdP h l0 10 5 fun x2 => CV (sX8_copy E) x1 8 [aP x2] h (kV fun h4 => J17 h4 l0 (0 : Int32) (1 : Int32) (0 : Int32))
theorem bX10_compact_0 {E : EV} {X : AX} {post : Option AV → AH → Prop} (C : Cb E X cX10_compact RX10 5 rmX10_compact) (D : Cr E X (some .int) rmX10_compact "compact" post) {J17 : AH → Option Nat → Int32 → Int32 → Int32 → Prop} (g17 : ∀ (h : AH) (l0 : Option Nat) (l1 : Int32) (l2 : Int32) (l3 : Int32), J17 h l0 l1 l2 l3 → Go E X 5 0 0 17 [(0, aP l0), (1, aI l1), (2, aI l2), (3, aI l3)] [] h) {h : AH} {l0 : Option Nat} (w : PX10_compact_0 E post J17 h l0) : Go E X 5 0 0 0 [(0, aP l0)] [] h := by
  unfold PX10_compact_0 at w
  refine r_aload_n C dX10_compact_0 rfl 0 rfl ?_
  refine r_getP C fcX10 (f := 6) (by decide) rfl k314 dX10_compact_1 (w.mono fun x1 w => ?_)
  refine r_aload_n C dX10_compact_4 rfl 0 rfl ?_
  refine r_getP C fcX10 (f := 5) (by decide) rfl k313 dX10_compact_5 (w.mono fun x2 w => ?_)
  refine r_cvV (rm' := rmX8_copy) C mX8_copy vX8_copy k783 [aP x2] [] rfl rfl (Nat.le_of_ble_eq_true rfl) (by decide) ⟨Nat.zero_le _, Nat.zero_le _⟩ 0 0 rfl rfl dX10_compact_8 w (fun h4 w => ?_)
  refine r_iconst (v := 0) C dX10_compact_11 rfl ?_
  refine r_istore_n C dX10_compact_12 rfl (by decide) rfl ?_
  refine r_iconst (v := 1) C dX10_compact_13 rfl ?_
  refine r_istore_n C dX10_compact_14 rfl (by decide) rfl ?_
  refine r_iconst (v := 0) C dX10_compact_15 rfl ?_
  refine r_istore_n C dX10_compact_16 rfl (by decide) rfl ?_
  exact r_sub [3, 2, 1, 0] rfl (g17 h4 l0 (0 : Int32) (1 : Int32) (0 : Int32) w)
theorem eX10_compact {E : EV} {post : Option AV → AH → Prop} {h : AH} {l0 : Option Nat} {J17 : AH → Option Nat → Int32 → Int32 → Int32 → Prop} (g17 : ∀ X : AX, Cb E X cX10_compact RX10 5 rmX10_compact → Cr E X (some .int) rmX10_compact "compact" post → ∀ (h : AH) (l0 : Option Nat) (l1 : Int32) (l2 : Int32) (l3 : Int32), J17 h l0 l1 l2 l3 → Go E X 5 0 0 17 [(0, aP l0), (1, aI l1), (2, aI l2), (3, aI l3)] [] h) (w : PX10_compact_0 E post J17 h l0) : sX10_compact E [aP l0] h post := Spec.of RX10 rfl rfl (Nat.le_of_ble_eq_true rfl) fun X C D => bX10_compact_0 C D (g17 X C D) w
theorem dX10_storeTurned_0 : decode cX10_storeTurned 0 = .ok (.new 7, 3) := by decide +kernel
theorem dX10_storeTurned_3 : decode cX10_storeTurned 3 = .ok (.dup, 1) := by decide +kernel
theorem dX10_storeTurned_4 : decode cX10_storeTurned 4 = .ok (.invokespecial 9, 3) := by decide +kernel
theorem dX10_storeTurned_7 : decode cX10_storeTurned 7 = .ok (.astore 4, 2) := by decide +kernel
theorem dX10_storeTurned_9 : decode cX10_storeTurned 9 = .ok (.aload 4, 2) := by decide +kernel
theorem dX10_storeTurned_11 : decode cX10_storeTurned 11 = .ok (.aload_n 1, 1) := by decide +kernel
theorem dX10_storeTurned_12 : decode cX10_storeTurned 12 = .ok (.iload_n 3, 1) := by decide +kernel
theorem dX10_storeTurned_13 : decode cX10_storeTurned 13 = .ok (.invokevirtual 244, 3) := by decide +kernel
theorem dX10_storeTurned_16 : decode cX10_storeTurned 16 = .ok (.aload_n 0, 1) := by decide +kernel
theorem dX10_storeTurned_17 : decode cX10_storeTurned 17 = .ok (.getfield 62, 3) := by decide +kernel
theorem dX10_storeTurned_20 : decode cX10_storeTurned 20 = .ok (.aload_n 0, 1) := by decide +kernel
theorem dX10_storeTurned_21 : decode cX10_storeTurned 21 = .ok (.getfield 52, 3) := by decide +kernel
theorem dX10_storeTurned_24 : decode cX10_storeTurned 24 = .ok (.invokevirtual 125, 3) := by decide +kernel
theorem dX10_storeTurned_27 : decode cX10_storeTurned 27 = .ok (.aload_n 0, 1) := by decide +kernel
theorem dX10_storeTurned_28 : decode cX10_storeTurned 28 = .ok (.getfield 52, 3) := by decide +kernel
theorem dX10_storeTurned_31 : decode cX10_storeTurned 31 = .ok (.iload_n 2, 1) := by decide +kernel
theorem dX10_storeTurned_32 : decode cX10_storeTurned 32 = .ok (.aload 4, 2) := by decide +kernel
theorem dX10_storeTurned_34 : decode cX10_storeTurned 34 = .ok (.invokevirtual 132, 3) := by decide +kernel
theorem dX10_storeTurned_37 : decode cX10_storeTurned 37 = .ok (.aload 4, 2) := by decide +kernel
theorem dX10_storeTurned_39 : decode cX10_storeTurned 39 = .ok (.getfield 136, 3) := by decide +kernel
theorem dX10_storeTurned_42 : decode cX10_storeTurned 42 = .ok (.ireturn, 1) := by decide +kernel
abbrev rmX10_storeTurned : Room := { frames := 4, cells := 4, slots := 50, locals := 160 }
abbrev sX10_storeTurned (E : EV) : List AV → AH → (Option AV → AH → Prop) → Prop := Spec E yX10_storeTurned cX10_storeTurned 5 (some .int) rmX10_storeTurned
theorem mX10_storeTurned : Mt yX10_storeTurned cX10_storeTurned 5 (some .int) 3 := ⟨k761, k1, by decide +kernel⟩
theorem vX10_storeTurned : MtV yX10_storeTurned 10 := ⟨k760, kp15, by decide, (RX10, TX10, 12), rfl, rfl⟩
def PX10_storeTurned_0 (E : EV) (post : Option AV → AH → Prop) (k n : Nat) (h : AH) (l0 : Option Nat) (l1 : Option Nat) (l2 : Int32) (l3 : Int32) : Prop :=
  (k + 1 ≤ 4 ∧ n + 9 ≤ 50) ∧ (∀ h1, h1 = h ++ [.inr (6, [aP none, aP none, aP none, aI 0, aI 0, aI 0, aI 0, aI 0, aI 0])] → ((k + 1) + 3 ≤ 4 ∧ (n + 9) + 40 ≤ 50) ∧ CS (sX6_init E) [aP (some h.length)] h1 (kV fun h3 => (((k + 1) + 3) ≤ 4 ∧ ((n + 9) + 40) ≤ 50) ∧ CV (sX6_setTurned E) (some h.length) 6 [aP l1, aI l3] h3 (kV fun h6 => rdP h6 l0 10 7 fun x7 => rdP h6 l0 10 5 fun x8 => (((k + 1) + 3) ≤ 4 ∧ ((n + 9) + 40) ≤ 50) ∧ CV (sX1_save E) x7 1 [aP x8] h6 (kV fun h10 => rdP h10 l0 10 5 fun x11 => (((k + 1) + 3) ≤ 4 ∧ ((n + 9) + 40) ≤ 50) ∧ CV (sX8_setSlot E) x11 8 [aI l2, aP (some h.length)] h10 (kV fun h13 => rdI h13 (some h.length) 6 3 fun x14 => (((k + 1) + 3) ≤ 4 ∧ ((n + 9) + 40) ≤ 50) ∧ post (some (aI x14)) h13)))))
theorem bX10_storeTurned_0 {E : EV} {X : AX} {post : Option AV → AH → Prop} (C : Cb E X cX10_storeTurned RX10 5 rmX10_storeTurned) (D : Cr E X (some .int) rmX10_storeTurned "storeTurned" post) {k n : Nat} {h : AH} {l0 : Option Nat} {l1 : Option Nat} {l2 : Int32} {l3 : Int32} (w : PX10_storeTurned_0 E post k n h l0 l1 l2 l3) : Go E X 5 k n 0 [(0, aP l0), (1, aP l1), (2, aI l2), (3, aI l3)] [] h := by
  unfold PX10_storeTurned_0 at w
  refine r_new (fs := [aP none, aP none, aP none, aI 0, aI 0, aI 0, aI 0, aI 0, aI 0]) C fcX6 rfl df_X6 k21 k22 k2 w.1.1 w.1.2 dX10_storeTurned_0 ?_
  have w := w.2 _ rfl
  generalize h ++ [.inr (6, [aP none, aP none, aP none, aI 0, aI 0, aI 0, aI 0, aI 0, aI 0])] = h1 at w ⊢
  refine r_dup C dX10_storeTurned_3 rfl ?_
  refine r_ciV (rm' := rmX6_init) C mX6_init vX6_init (host := "NestingPlanner") (Or.inr nk23) [] [aP (some h.length)] rfl rfl (Nat.le_of_ble_eq_true rfl) (by decide) w.1 ((k + 1) + 3) ((n + 9) + 40) rfl rfl dX10_storeTurned_4 rfl w.2 (fun h3 w => ?_)
  refine r_astore C dX10_storeTurned_7 (by decide) rfl ?_
  refine r_aload C dX10_storeTurned_9 0 rfl ?_
  refine r_aload_n C dX10_storeTurned_11 rfl 2 rfl ?_
  refine r_iload_n C dX10_storeTurned_12 rfl 4 rfl ?_
  refine r_cvV (rm' := rmX6_setTurned) C mX6_setTurned vX6_setTurned k762 [aP l1, aI l3] [] rfl rfl (Nat.le_of_ble_eq_true rfl) (by decide) w.1 ((k + 1) + 3) ((n + 9) + 40) rfl rfl dX10_storeTurned_13 w.2 (fun h6 w => ?_)
  refine r_aload_n C dX10_storeTurned_16 rfl 1 rfl ?_
  refine r_getP C fcX10 (f := 7) (by decide) rfl k315 dX10_storeTurned_17 (w.mono fun x7 w => ?_)
  refine r_aload_n C dX10_storeTurned_20 rfl 1 rfl ?_
  refine r_getP C fcX10 (f := 5) (by decide) rfl k313 dX10_storeTurned_21 (w.mono fun x8 w => ?_)
  refine r_cvV (rm' := rmX1_save) C mX1_save vX1_save k350 [aP x8] [] rfl rfl (Nat.le_of_ble_eq_true rfl) (by decide) w.1 ((k + 1) + 3) ((n + 9) + 40) rfl rfl dX10_storeTurned_24 w.2 (fun h10 w => ?_)
  refine r_aload_n C dX10_storeTurned_27 rfl 1 rfl ?_
  refine r_getP C fcX10 (f := 5) (by decide) rfl k313 dX10_storeTurned_28 (w.mono fun x11 w => ?_)
  refine r_iload_n C dX10_storeTurned_31 rfl 3 rfl ?_
  refine r_aload C dX10_storeTurned_32 0 rfl ?_
  refine r_cvV (rm' := rmX8_setSlot) C mX8_setSlot vX8_setSlot k767 [aI l2, aP (some h.length)] [] rfl rfl (Nat.le_of_ble_eq_true rfl) (by decide) w.1 ((k + 1) + 3) ((n + 9) + 40) rfl rfl dX10_storeTurned_34 w.2 (fun h13 w => ?_)
  refine r_aload C dX10_storeTurned_37 0 rfl ?_
  refine r_getI C fcX6 (f := 3) (by decide) rfl k33 dX10_storeTurned_39 (w.mono fun x14 w => ?_)
  exact r_iret C D rfl w.1.1 w.1.2 dX10_storeTurned_42 w.2
theorem eX10_storeTurned {E : EV} {post : Option AV → AH → Prop} {h : AH} {l0 : Option Nat} {l1 : Option Nat} {l2 : Int32} {l3 : Int32} (w : PX10_storeTurned_0 E post 0 0 h l0 l1 l2 l3) : sX10_storeTurned E [aP l0, aP l1, aI l2, aI l3] h post := Spec.of RX10 rfl rfl (Nat.le_of_ble_eq_true rfl) fun X C D => bX10_storeTurned_0 C D w
theorem dX10_copyShape_0 : decode cX10_copyShape 0 = .ok (.iload_n 1, 1) := by decide +kernel
theorem dX10_copyShape_1 : decode cX10_copyShape 1 = .ok (.invokestatic 98, 3) := by decide +kernel
theorem dX10_copyShape_4 : decode cX10_copyShape 4 = .ok (.ifCond .eq 19, 3) := by decide +kernel
theorem dX10_copyShape_7 : decode cX10_copyShape 7 = .ok (.iload_n 2, 1) := by decide +kernel
theorem dX10_copyShape_8 : decode cX10_copyShape 8 = .ok (.invokestatic 98, 3) := by decide +kernel
theorem dX10_copyShape_11 : decode cX10_copyShape 11 = .ok (.ifCond .eq 12, 3) := by decide +kernel
theorem dX10_copyShape_14 : decode cX10_copyShape 14 = .ok (.iload_n 3, 1) := by decide +kernel
theorem dX10_copyShape_15 : decode cX10_copyShape 15 = .ok (.ifCond .lt 8, 3) := by decide +kernel
theorem dX10_copyShape_18 : decode cX10_copyShape 18 = .ok (.iload_n 3, 1) := by decide +kernel
theorem dX10_copyShape_19 : decode cX10_copyShape 19 = .ok (.iconst 4, 1) := by decide +kernel
theorem dX10_copyShape_20 : decode cX10_copyShape 20 = .ok (.if_icmp .lt 6, 3) := by decide +kernel
theorem dX10_copyShape_23 : decode cX10_copyShape 23 = .ok (.ldc 88, 2) := by decide +kernel
theorem dX10_copyShape_25 : decode cX10_copyShape 25 = .ok (.ireturn, 1) := by decide +kernel
theorem dX10_copyShape_26 : decode cX10_copyShape 26 = .ok (.aload_n 0, 1) := by decide +kernel
theorem dX10_copyShape_27 : decode cX10_copyShape 27 = .ok (.getfield 52, 3) := by decide +kernel
theorem dX10_copyShape_30 : decode cX10_copyShape 30 = .ok (.iload_n 1, 1) := by decide +kernel
theorem dX10_copyShape_31 : decode cX10_copyShape 31 = .ok (.invokevirtual 116, 3) := by decide +kernel
theorem dX10_copyShape_34 : decode cX10_copyShape 34 = .ok (.invokevirtual 120, 3) := by decide +kernel
theorem dX10_copyShape_37 : decode cX10_copyShape 37 = .ok (.ifCond .eq 6, 3) := by decide +kernel
theorem dX10_copyShape_40 : decode cX10_copyShape 40 = .ok (.ldc 124, 2) := by decide +kernel
theorem dX10_copyShape_42 : decode cX10_copyShape 42 = .ok (.ireturn, 1) := by decide +kernel
theorem dX10_copyShape_43 : decode cX10_copyShape 43 = .ok (.aload_n 0, 1) := by decide +kernel
theorem dX10_copyShape_44 : decode cX10_copyShape 44 = .ok (.aload_n 0, 1) := by decide +kernel
theorem dX10_copyShape_45 : decode cX10_copyShape 45 = .ok (.getfield 52, 3) := by decide +kernel
theorem dX10_copyShape_48 : decode cX10_copyShape 48 = .ok (.iload_n 1, 1) := by decide +kernel
theorem dX10_copyShape_49 : decode cX10_copyShape 49 = .ok (.invokevirtual 116, 3) := by decide +kernel
theorem dX10_copyShape_52 : decode cX10_copyShape 52 = .ok (.iload_n 2, 1) := by decide +kernel
theorem dX10_copyShape_53 : decode cX10_copyShape 53 = .ok (.iload_n 3, 1) := by decide +kernel
theorem dX10_copyShape_54 : decode cX10_copyShape 54 = .ok (.invokevirtual 112, 3) := by decide +kernel
theorem dX10_copyShape_57 : decode cX10_copyShape 57 = .ok (.ireturn, 1) := by decide +kernel
abbrev rmX10_copyShape : Room := { frames := 5, cells := 4, slots := 50, locals := 200 }
abbrev sX10_copyShape (E : EV) : List AV → AH → (Option AV → AH → Prop) → Prop := Spec E yX10_copyShape cX10_copyShape 4 (some .int) rmX10_copyShape
theorem mX10_copyShape : Mt yX10_copyShape cX10_copyShape 4 (some .int) 3 := ⟨k774, k1, by decide +kernel⟩
theorem vX10_copyShape : MtV yX10_copyShape 10 := ⟨k772, k773, by decide, (RX10, TX10, 12), rfl, rfl⟩
def PX10_copyShape_0 (E : EV) (post : Option AV → AH → Prop) (k n : Nat) (h : AH) (l0 : Option Nat) (l1 : Int32) (l2 : Int32) (l3 : Int32) : Prop :=
  (k ≤ 4 ∧ n ≤ 50) ∧ CS (sX10_isSlot E) [aI l1] h (kI fun x1 h2 => (x1 = 0 → (k ≤ 4 ∧ n ≤ 50) ∧ post (some (aI (-1000001 : Int32))) h2) ∧ (¬ x1 = 0 → (k ≤ 4 ∧ n ≤ 50) ∧ CS (sX10_isSlot E) [aI l2] h2 (kI fun x3 h4 => (x3 = 0 → (k ≤ 4 ∧ n ≤ 50) ∧ post (some (aI (-1000001 : Int32))) h4) ∧ (¬ x3 = 0 → (l3 < 0 → (k ≤ 4 ∧ n ≤ 50) ∧ post (some (aI (-1000001 : Int32))) h4) ∧ (¬ l3 < 0 → (l3 < (4 : Int32) → rdP h4 l0 10 5 fun x5 => (k ≤ 4 ∧ n ≤ 50) ∧ CV (sX8_slot E) x5 8 [aI l1] h4 (kP fun x6 h7 => (k ≤ 4 ∧ n ≤ 50) ∧ CV (sX6_isEmpty E) x6 6 [] h7 (kI fun x8 h9 => (x8 = 0 → rdP h9 l0 10 5 fun x10 => (k ≤ 4 ∧ n ≤ 50) ∧ CV (sX8_slot E) x10 8 [aI l1] h9 (kP fun x11 h12 => (k + 4 ≤ 4 ∧ n + 50 ≤ 50) ∧ CV (sX10_storeTurned E) l0 10 [aP x11, aI l2, aI l3] h12 (kI fun x13 h14 => ((k + 4) ≤ 4 ∧ (n + 50) ≤ 50) ∧ post (some (aI x13)) h14))) ∧ (¬ x8 = 0 → (k ≤ 4 ∧ n ≤ 50) ∧ post (some (aI (-1000002 : Int32))) h9)))) ∧ (¬ l3 < (4 : Int32) → (k ≤ 4 ∧ n ≤ 50) ∧ post (some (aI (-1000001 : Int32))) h4))))))
theorem bX10_copyShape_0 {E : EV} {X : AX} {post : Option AV → AH → Prop} (C : Cb E X cX10_copyShape RX10 4 rmX10_copyShape) (D : Cr E X (some .int) rmX10_copyShape "copyShape" post) {k n : Nat} {h : AH} {l0 : Option Nat} {l1 : Int32} {l2 : Int32} {l3 : Int32} (w : PX10_copyShape_0 E post k n h l0 l1 l2 l3) : Go E X 4 k n 0 [(0, aP l0), (1, aI l1), (2, aI l2), (3, aI l3)] [] h := by
  unfold PX10_copyShape_0 at w
  refine r_iload_n C dX10_copyShape_0 rfl 1 rfl ?_
  refine r_csI (rm' := rmX10_isSlot) C mX10_isSlot vX10_isSlot k587 [aI l1] [] rfl rfl (Nat.le_of_ble_eq_true rfl) (by decide) w.1 k n rfl rfl dX10_copyShape_1 w.2 (fun x1 h2 w => ?_)
  refine r_if_eq C dX10_copyShape_4 (tgt := 23) rfl (fun hc => ?_) (fun hc => ?_)
  · have w := w.1 hc
    refine r_ldc (v := -1000001) C dX10_copyShape_23 k349 ?_
    exact r_iret C D rfl w.1.1 w.1.2 dX10_copyShape_25 w.2
  · have w := w.2 hc
    refine r_iload_n C dX10_copyShape_7 rfl 2 rfl ?_
    refine r_csI (rm' := rmX10_isSlot) C mX10_isSlot vX10_isSlot k587 [aI l2] [] rfl rfl (Nat.le_of_ble_eq_true rfl) (by decide) w.1 k n rfl rfl dX10_copyShape_8 w.2 (fun x3 h4 w => ?_)
    refine r_if_eq C dX10_copyShape_11 (tgt := 23) rfl (fun hc => ?_) (fun hc => ?_)
    · have w := w.1 hc
      refine r_ldc (v := -1000001) C dX10_copyShape_23 k349 ?_
      exact r_iret C D rfl w.1.1 w.1.2 dX10_copyShape_25 w.2
    · have w := w.2 hc
      refine r_iload_n C dX10_copyShape_14 rfl 3 rfl ?_
      refine r_if_lt C dX10_copyShape_15 (tgt := 23) rfl (fun hc => ?_) (fun hc => ?_)
      · have w := w.1 hc
        refine r_ldc (v := -1000001) C dX10_copyShape_23 k349 ?_
        exact r_iret C D rfl w.1.1 w.1.2 dX10_copyShape_25 w.2
      · have w := w.2 hc
        refine r_iload_n C dX10_copyShape_18 rfl 3 rfl ?_
        refine r_iconst (v := 4) C dX10_copyShape_19 rfl ?_
        refine r_icmp_lt C dX10_copyShape_20 (tgt := 26) rfl (fun hc => ?_) (fun hc => ?_)
        · have w := w.1 hc
          refine r_aload_n C dX10_copyShape_26 rfl 0 rfl ?_
          refine r_getP C fcX10 (f := 5) (by decide) rfl k313 dX10_copyShape_27 (w.mono fun x5 w => ?_)
          refine r_iload_n C dX10_copyShape_30 rfl 1 rfl ?_
          refine r_cvP (rm' := rmX8_slot) C mX8_slot vX8_slot k590 [aI l1] [] rfl rfl (Nat.le_of_ble_eq_true rfl) (by decide) w.1 k n rfl rfl dX10_copyShape_31 w.2 (fun x6 h7 w => ?_)
          refine r_cvI (rm' := rmX6_isEmpty) C mX6_isEmpty vX6_isEmpty k596 [] [] rfl rfl (Nat.le_of_ble_eq_true rfl) (by decide) w.1 k n rfl rfl dX10_copyShape_34 w.2 (fun x8 h9 w => ?_)
          refine r_if_eq C dX10_copyShape_37 (tgt := 43) rfl (fun hc => ?_) (fun hc => ?_)
          · have w := w.1 hc
            refine r_aload_n C dX10_copyShape_43 rfl 0 rfl ?_
            refine r_aload_n C dX10_copyShape_44 rfl 0 rfl ?_
            refine r_getP C fcX10 (f := 5) (by decide) rfl k313 dX10_copyShape_45 (w.mono fun x10 w => ?_)
            refine r_iload_n C dX10_copyShape_48 rfl 1 rfl ?_
            refine r_cvP (rm' := rmX8_slot) C mX8_slot vX8_slot k590 [aI l1] [aP l0] rfl rfl (Nat.le_of_ble_eq_true rfl) (by decide) w.1 k n rfl rfl dX10_copyShape_49 w.2 (fun x11 h12 w => ?_)
            refine r_iload_n C dX10_copyShape_52 rfl 2 rfl ?_
            refine r_iload_n C dX10_copyShape_53 rfl 3 rfl ?_
            refine r_cvI (rm' := rmX10_storeTurned) C mX10_storeTurned vX10_storeTurned k758 [aP x11, aI l2, aI l3] [] rfl rfl (Nat.le_of_ble_eq_true rfl) (by decide) w.1 (k + 4) (n + 50) rfl rfl dX10_copyShape_54 w.2 (fun x13 h14 w => ?_)
            exact r_iret C D rfl w.1.1 w.1.2 dX10_copyShape_57 w.2
          · have w := w.2 hc
            refine r_ldc (v := -1000002) C dX10_copyShape_40 k562 ?_
            exact r_iret C D rfl w.1.1 w.1.2 dX10_copyShape_42 w.2
        · have w := w.2 hc
          refine r_ldc (v := -1000001) C dX10_copyShape_23 k349 ?_
          exact r_iret C D rfl w.1.1 w.1.2 dX10_copyShape_25 w.2
theorem eX10_copyShape {E : EV} {post : Option AV → AH → Prop} {h : AH} {l0 : Option Nat} {l1 : Int32} {l2 : Int32} {l3 : Int32} (w : PX10_copyShape_0 E post 0 0 h l0 l1 l2 l3) : sX10_copyShape E [aP l0, aI l1, aI l2, aI l3] h post := Spec.of RX10 rfl rfl (Nat.le_of_ble_eq_true rfl) fun X C D => bX10_copyShape_0 C D w
theorem dX10_hasPiece_0 : decode cX10_hasPiece 0 = .ok (.iload_n 1, 1) := by decide +kernel
theorem dX10_hasPiece_1 : decode cX10_hasPiece 1 = .ok (.invokestatic 98, 3) := by decide +kernel
theorem dX10_hasPiece_4 : decode cX10_hasPiece 4 = .ok (.ifCond .eq 26, 3) := by decide +kernel
theorem dX10_hasPiece_7 : decode cX10_hasPiece 7 = .ok (.iload_n 2, 1) := by decide +kernel
theorem dX10_hasPiece_8 : decode cX10_hasPiece 8 = .ok (.ifCond .lt 22, 3) := by decide +kernel
theorem dX10_hasPiece_11 : decode cX10_hasPiece 11 = .ok (.iload_n 2, 1) := by decide +kernel
theorem dX10_hasPiece_12 : decode cX10_hasPiece 12 = .ok (.aload_n 0, 1) := by decide +kernel
theorem dX10_hasPiece_13 : decode cX10_hasPiece 13 = .ok (.getfield 52, 3) := by decide +kernel
theorem dX10_hasPiece_16 : decode cX10_hasPiece 16 = .ok (.iload_n 1, 1) := by decide +kernel
theorem dX10_hasPiece_17 : decode cX10_hasPiece 17 = .ok (.invokevirtual 116, 3) := by decide +kernel
theorem dX10_hasPiece_20 : decode cX10_hasPiece 20 = .ok (.getfield 136, 3) := by decide +kernel
theorem dX10_hasPiece_23 : decode cX10_hasPiece 23 = .ok (.if_icmp .ge 7, 3) := by decide +kernel
theorem dX10_hasPiece_26 : decode cX10_hasPiece 26 = .ok (.iconst 1, 1) := by decide +kernel
theorem dX10_hasPiece_27 : decode cX10_hasPiece 27 = .ok (.goto 4, 3) := by decide +kernel
theorem dX10_hasPiece_30 : decode cX10_hasPiece 30 = .ok (.iconst 0, 1) := by decide +kernel
theorem dX10_hasPiece_31 : decode cX10_hasPiece 31 = .ok (.ireturn, 1) := by decide +kernel
abbrev rmX10_hasPiece : Room := { frames := 1, cells := 0, slots := 0, locals := 40 }
abbrev sX10_hasPiece (E : EV) : List AV → AH → (Option AV → AH → Prop) → Prop := Spec E yX10_hasPiece cX10_hasPiece 3 (some .boolean) rmX10_hasPiece
theorem mX10_hasPiece : Mt yX10_hasPiece cX10_hasPiece 3 (some .boolean) 2 := ⟨k613, k1, by decide +kernel⟩
theorem vX10_hasPiece : MtV yX10_hasPiece 10 := ⟨k612, kp8, by decide, (RX10, TX10, 12), rfl, rfl⟩
def PX10_hasPiece_0 (E : EV) (post : Option AV → AH → Prop) (h : AH) (l0 : Option Nat) (l1 : Int32) (l2 : Int32) : Prop :=
  CS (sX10_isSlot E) [aI l1] h (kI fun x1 h2 => (x1 = 0 → post (some (aI (0 : Int32))) h2) ∧ (¬ x1 = 0 → (l2 < 0 → post (some (aI (0 : Int32))) h2) ∧ (¬ l2 < 0 → rdP h2 l0 10 5 fun x3 => CV (sX8_slot E) x3 8 [aI l1] h2 (kP fun x4 h5 => rdI h5 x4 6 3 fun x6 => (x6 ≤ l2 → post (some (aI (0 : Int32))) h5) ∧ (¬ x6 ≤ l2 → post (some (aI (1 : Int32))) h5)))))
theorem bX10_hasPiece_0 {E : EV} {X : AX} {post : Option AV → AH → Prop} (C : Cb E X cX10_hasPiece RX10 3 rmX10_hasPiece) (D : Cr E X (some .boolean) rmX10_hasPiece "hasPiece" post) {h : AH} {l0 : Option Nat} {l1 : Int32} {l2 : Int32} (w : PX10_hasPiece_0 E post h l0 l1 l2) : Go E X 3 0 0 0 [(0, aP l0), (1, aI l1), (2, aI l2)] [] h := by
  unfold PX10_hasPiece_0 at w
  refine r_iload_n C dX10_hasPiece_0 rfl 1 rfl ?_
  refine r_csI (rm' := rmX10_isSlot) C mX10_isSlot vX10_isSlot k587 [aI l1] [] rfl rfl (Nat.le_of_ble_eq_true rfl) (by decide) ⟨Nat.zero_le _, Nat.zero_le _⟩ 0 0 rfl rfl dX10_hasPiece_1 w (fun x1 h2 w => ?_)
  refine r_if_eq C dX10_hasPiece_4 (tgt := 30) rfl (fun hc => ?_) (fun hc => ?_)
  · have w := w.1 hc
    refine r_iconst (v := 0) C dX10_hasPiece_30 rfl ?_
    exact r_zret C D rfl (Or.inl rfl) (Nat.zero_le _) (Nat.zero_le _) dX10_hasPiece_31 w
  · have w := w.2 hc
    refine r_iload_n C dX10_hasPiece_7 rfl 2 rfl ?_
    refine r_if_lt C dX10_hasPiece_8 (tgt := 30) rfl (fun hc => ?_) (fun hc => ?_)
    · have w := w.1 hc
      refine r_iconst (v := 0) C dX10_hasPiece_30 rfl ?_
      exact r_zret C D rfl (Or.inl rfl) (Nat.zero_le _) (Nat.zero_le _) dX10_hasPiece_31 w
    · have w := w.2 hc
      refine r_iload_n C dX10_hasPiece_11 rfl 2 rfl ?_
      refine r_aload_n C dX10_hasPiece_12 rfl 0 rfl ?_
      refine r_getP C fcX10 (f := 5) (by decide) rfl k313 dX10_hasPiece_13 (w.mono fun x3 w => ?_)
      refine r_iload_n C dX10_hasPiece_16 rfl 1 rfl ?_
      refine r_cvP (rm' := rmX8_slot) C mX8_slot vX8_slot k590 [aI l1] [aI l2] rfl rfl (Nat.le_of_ble_eq_true rfl) (by decide) ⟨Nat.zero_le _, Nat.zero_le _⟩ 0 0 rfl rfl dX10_hasPiece_17 w (fun x4 h5 w => ?_)
      refine r_getI C fcX6 (f := 3) (by decide) rfl k33 dX10_hasPiece_20 (w.mono fun x6 w => ?_)
      refine r_icmp_ge C dX10_hasPiece_23 (tgt := 30) rfl (fun hc => ?_) (fun hc => ?_)
      · have w := w.1 hc
        refine r_iconst (v := 0) C dX10_hasPiece_30 rfl ?_
        exact r_zret C D rfl (Or.inl rfl) (Nat.zero_le _) (Nat.zero_le _) dX10_hasPiece_31 w
      · have w := w.2 hc
        refine r_iconst (v := 1) C dX10_hasPiece_26 rfl ?_
        refine r_goto C dX10_hasPiece_27 (tgt := 31) rfl ?_
        exact r_zret C D rfl (Or.inr rfl) (Nat.zero_le _) (Nat.zero_le _) dX10_hasPiece_31 w
theorem eX10_hasPiece {E : EV} {post : Option AV → AH → Prop} {h : AH} {l0 : Option Nat} {l1 : Int32} {l2 : Int32} (w : PX10_hasPiece_0 E post h l0 l1 l2) : sX10_hasPiece E [aP l0, aI l1, aI l2] h post := Spec.of RX10 rfl rfl (Nat.le_of_ble_eq_true rfl) fun X C D => bX10_hasPiece_0 C D w
theorem dX10_doubleArea_0 : decode cX10_doubleArea 0 = .ok (.aload_n 0, 1) := by decide +kernel
theorem dX10_doubleArea_1 : decode cX10_doubleArea 1 = .ok (.iload_n 1, 1) := by decide +kernel
theorem dX10_doubleArea_2 : decode cX10_doubleArea 2 = .ok (.iload_n 2, 1) := by decide +kernel
theorem dX10_doubleArea_3 : decode cX10_doubleArea 3 = .ok (.invokevirtual 139, 3) := by decide +kernel
theorem dX10_doubleArea_6 : decode cX10_doubleArea 6 = .ok (.ifCond .ne 6, 3) := by decide +kernel
theorem dX10_doubleArea_9 : decode cX10_doubleArea 9 = .ok (.ldc 88, 2) := by decide +kernel
theorem dX10_doubleArea_11 : decode cX10_doubleArea 11 = .ok (.ireturn, 1) := by decide +kernel
theorem dX10_doubleArea_12 : decode cX10_doubleArea 12 = .ok (.aload_n 0, 1) := by decide +kernel
theorem dX10_doubleArea_13 : decode cX10_doubleArea 13 = .ok (.getfield 52, 3) := by decide +kernel
theorem dX10_doubleArea_16 : decode cX10_doubleArea 16 = .ok (.iload_n 1, 1) := by decide +kernel
theorem dX10_doubleArea_17 : decode cX10_doubleArea 17 = .ok (.invokevirtual 116, 3) := by decide +kernel
theorem dX10_doubleArea_20 : decode cX10_doubleArea 20 = .ok (.iload_n 2, 1) := by decide +kernel
theorem dX10_doubleArea_21 : decode cX10_doubleArea 21 = .ok (.iconst 0, 1) := by decide +kernel
theorem dX10_doubleArea_22 : decode cX10_doubleArea 22 = .ok (.aload_n 0, 1) := by decide +kernel
theorem dX10_doubleArea_23 : decode cX10_doubleArea 23 = .ok (.getfield 69, 3) := by decide +kernel
theorem dX10_doubleArea_26 : decode cX10_doubleArea 26 = .ok (.invokevirtual 143, 3) := by decide +kernel
theorem dX10_doubleArea_29 : decode cX10_doubleArea 29 = .ok (.aload_n 0, 1) := by decide +kernel
theorem dX10_doubleArea_30 : decode cX10_doubleArea 30 = .ok (.getfield 69, 3) := by decide +kernel
theorem dX10_doubleArea_33 : decode cX10_doubleArea 33 = .ok (.invokevirtual 147, 3) := by decide +kernel
theorem dX10_doubleArea_36 : decode cX10_doubleArea 36 = .ok (.ireturn, 1) := by decide +kernel
abbrev rmX10_doubleArea : Room := { frames := 3, cells := 0, slots := 0, locals := 120 }
abbrev sX10_doubleArea (E : EV) : List AV → AH → (Option AV → AH → Prop) → Prop := Spec E yX10_doubleArea cX10_doubleArea 3 (some .int) rmX10_doubleArea
theorem mX10_doubleArea : Mt yX10_doubleArea cX10_doubleArea 3 (some .int) 2 := ⟨k609, k1, by decide +kernel⟩
theorem vX10_doubleArea : MtV yX10_doubleArea 10 := ⟨k607, k608, by decide, (RX10, TX10, 12), rfl, rfl⟩
def PX10_doubleArea_0 (E : EV) (post : Option AV → AH → Prop) (h : AH) (l0 : Option Nat) (l1 : Int32) (l2 : Int32) : Prop :=
  CV (sX10_hasPiece E) l0 10 [aI l1, aI l2] h (kI fun x1 h2 => (¬ x1 = 0 → rdP h2 l0 10 5 fun x3 => CV (sX8_slot E) x3 8 [aI l1] h2 (kP fun x4 h5 => rdP h5 l0 10 8 fun x6 => CV (sX6_copyPiece E) x4 6 [aI l2, aI (0 : Int32), aP x6] h5 (kV fun h8 => rdP h8 l0 10 8 fun x9 => CV (sX5_areaTwice E) x9 5 [] h8 (kI fun x10 h11 => post (some (aI x10)) h11)))) ∧ (x1 = 0 → post (some (aI (-1000001 : Int32))) h2))
theorem bX10_doubleArea_0 {E : EV} {X : AX} {post : Option AV → AH → Prop} (C : Cb E X cX10_doubleArea RX10 3 rmX10_doubleArea) (D : Cr E X (some .int) rmX10_doubleArea "doubleArea" post) {h : AH} {l0 : Option Nat} {l1 : Int32} {l2 : Int32} (w : PX10_doubleArea_0 E post h l0 l1 l2) : Go E X 3 0 0 0 [(0, aP l0), (1, aI l1), (2, aI l2)] [] h := by
  unfold PX10_doubleArea_0 at w
  refine r_aload_n C dX10_doubleArea_0 rfl 0 rfl ?_
  refine r_iload_n C dX10_doubleArea_1 rfl 1 rfl ?_
  refine r_iload_n C dX10_doubleArea_2 rfl 2 rfl ?_
  refine r_cvI (rm' := rmX10_hasPiece) C mX10_hasPiece vX10_hasPiece k610 [aI l1, aI l2] [] rfl rfl (Nat.le_of_ble_eq_true rfl) (by decide) ⟨Nat.zero_le _, Nat.zero_le _⟩ 0 0 rfl rfl dX10_doubleArea_3 w (fun x1 h2 w => ?_)
  refine r_if_ne C dX10_doubleArea_6 (tgt := 12) rfl (fun hc => ?_) (fun hc => ?_)
  · have w := w.1 hc
    refine r_aload_n C dX10_doubleArea_12 rfl 0 rfl ?_
    refine r_getP C fcX10 (f := 5) (by decide) rfl k313 dX10_doubleArea_13 (w.mono fun x3 w => ?_)
    refine r_iload_n C dX10_doubleArea_16 rfl 1 rfl ?_
    refine r_cvP (rm' := rmX8_slot) C mX8_slot vX8_slot k590 [aI l1] [] rfl rfl (Nat.le_of_ble_eq_true rfl) (by decide) ⟨Nat.zero_le _, Nat.zero_le _⟩ 0 0 rfl rfl dX10_doubleArea_17 w (fun x4 h5 w => ?_)
    refine r_iload_n C dX10_doubleArea_20 rfl 2 rfl ?_
    refine r_iconst (v := 0) C dX10_doubleArea_21 rfl ?_
    refine r_aload_n C dX10_doubleArea_22 rfl 0 rfl ?_
    refine r_getP C fcX10 (f := 8) (by decide) rfl k316 dX10_doubleArea_23 (w.mono fun x6 w => ?_)
    refine r_cvV (rm' := rmX6_copyPiece) C mX6_copyPiece vX6_copyPiece k578 [aI l2, aI (0 : Int32), aP x6] [] rfl rfl (Nat.le_of_ble_eq_true rfl) (by decide) ⟨Nat.zero_le _, Nat.zero_le _⟩ 0 0 rfl rfl dX10_doubleArea_26 w (fun h8 w => ?_)
    refine r_aload_n C dX10_doubleArea_29 rfl 0 rfl ?_
    refine r_getP C fcX10 (f := 8) (by decide) rfl k316 dX10_doubleArea_30 (w.mono fun x9 w => ?_)
    refine r_cvI (rm' := rmX5_areaTwice) C mX5_areaTwice vX5_areaTwice k579 [] [] rfl rfl (Nat.le_of_ble_eq_true rfl) (by decide) ⟨Nat.zero_le _, Nat.zero_le _⟩ 0 0 rfl rfl dX10_doubleArea_33 w (fun x10 h11 w => ?_)
    exact r_iret C D rfl (Nat.zero_le _) (Nat.zero_le _) dX10_doubleArea_36 w
  · have w := w.2 hc
    refine r_ldc (v := -1000001) C dX10_doubleArea_9 k349 ?_
    exact r_iret C D rfl (Nat.zero_le _) (Nat.zero_le _) dX10_doubleArea_11 w
theorem eX10_doubleArea {E : EV} {post : Option AV → AH → Prop} {h : AH} {l0 : Option Nat} {l1 : Int32} {l2 : Int32} (w : PX10_doubleArea_0 E post h l0 l1 l2) : sX10_doubleArea E [aP l0, aI l1, aI l2] h post := Spec.of RX10 rfl rfl (Nat.le_of_ble_eq_true rfl) fun X C D => bX10_doubleArea_0 C D w
theorem dX10_isItem_0 : decode cX10_isItem 0 = .ok (.iload_n 1, 1) := by decide +kernel
theorem dX10_isItem_1 : decode cX10_isItem 1 = .ok (.ifCond .lt 18, 3) := by decide +kernel
theorem dX10_isItem_4 : decode cX10_isItem 4 = .ok (.iload_n 1, 1) := by decide +kernel
theorem dX10_isItem_5 : decode cX10_isItem 5 = .ok (.aload_n 0, 1) := by decide +kernel
theorem dX10_isItem_6 : decode cX10_isItem 6 = .ok (.getfield 52, 3) := by decide +kernel
theorem dX10_isItem_9 : decode cX10_isItem 9 = .ok (.getfield 218, 3) := by decide +kernel
theorem dX10_isItem_12 : decode cX10_isItem 12 = .ok (.if_icmp .ge 7, 3) := by decide +kernel
theorem dX10_isItem_15 : decode cX10_isItem 15 = .ok (.iconst 1, 1) := by decide +kernel
theorem dX10_isItem_16 : decode cX10_isItem 16 = .ok (.goto 4, 3) := by decide +kernel
theorem dX10_isItem_19 : decode cX10_isItem 19 = .ok (.iconst 0, 1) := by decide +kernel
theorem dX10_isItem_20 : decode cX10_isItem 20 = .ok (.ireturn, 1) := by decide +kernel
abbrev rmX10_isItem : Room := { frames := 0, cells := 0, slots := 0, locals := 0 }
abbrev sX10_isItem (E : EV) : List AV → AH → (Option AV → AH → Prop) → Prop := Spec E yX10_isItem cX10_isItem 2 (some .boolean) rmX10_isItem
theorem mX10_isItem : Mt yX10_isItem cX10_isItem 2 (some .boolean) 1 := ⟨k401, k1, by decide +kernel⟩
theorem vX10_isItem : MtV yX10_isItem 10 := ⟨k400, kp3, by decide, (RX10, TX10, 12), rfl, rfl⟩
def PX10_isItem_0 (E : EV) (post : Option AV → AH → Prop) (h : AH) (l0 : Option Nat) (l1 : Int32) : Prop :=
  (l1 < 0 → post (some (aI (0 : Int32))) h) ∧ (¬ l1 < 0 → rdP h l0 10 5 fun x1 => rdI h x1 8 5 fun x2 => (x2 ≤ l1 → post (some (aI (0 : Int32))) h) ∧ (¬ x2 ≤ l1 → post (some (aI (1 : Int32))) h))
theorem bX10_isItem_0 {E : EV} {X : AX} {post : Option AV → AH → Prop} (C : Cb E X cX10_isItem RX10 2 rmX10_isItem) (D : Cr E X (some .boolean) rmX10_isItem "isItem" post) {h : AH} {l0 : Option Nat} {l1 : Int32} (w : PX10_isItem_0 E post h l0 l1) : Go E X 2 0 0 0 [(0, aP l0), (1, aI l1)] [] h := by
  unfold PX10_isItem_0 at w
  refine r_iload_n C dX10_isItem_0 rfl 1 rfl ?_
  refine r_if_lt C dX10_isItem_1 (tgt := 19) rfl (fun hc => ?_) (fun hc => ?_)
  · have w := w.1 hc
    refine r_iconst (v := 0) C dX10_isItem_19 rfl ?_
    exact r_zret C D rfl (Or.inl rfl) (Nat.zero_le _) (Nat.zero_le _) dX10_isItem_20 w
  · have w := w.2 hc
    refine r_iload_n C dX10_isItem_4 rfl 1 rfl ?_
    refine r_aload_n C dX10_isItem_5 rfl 0 rfl ?_
    refine r_getP C fcX10 (f := 5) (by decide) rfl k313 dX10_isItem_6 (w.mono fun x1 w => ?_)
    refine r_getI C fcX8 (f := 5) (by decide) rfl k258 dX10_isItem_9 (w.mono fun x2 w => ?_)
    refine r_icmp_ge C dX10_isItem_12 (tgt := 19) rfl (fun hc => ?_) (fun hc => ?_)
    · have w := w.1 hc
      refine r_iconst (v := 0) C dX10_isItem_19 rfl ?_
      exact r_zret C D rfl (Or.inl rfl) (Nat.zero_le _) (Nat.zero_le _) dX10_isItem_20 w
    · have w := w.2 hc
      refine r_iconst (v := 1) C dX10_isItem_15 rfl ?_
      refine r_goto C dX10_isItem_16 (tgt := 20) rfl ?_
      exact r_zret C D rfl (Or.inr rfl) (Nat.zero_le _) (Nat.zero_le _) dX10_isItem_20 w
theorem eX10_isItem {E : EV} {post : Option AV → AH → Prop} {h : AH} {l0 : Option Nat} {l1 : Int32} (w : PX10_isItem_0 E post h l0 l1) : sX10_isItem E [aP l0, aI l1] h post := Spec.of RX10 rfl rfl (Nat.le_of_ble_eq_true rfl) fun X C D => bX10_isItem_0 C D w
theorem dX10_isDirection_0 : decode cX10_isDirection 0 = .ok (.iload_n 0, 1) := by decide +kernel
theorem dX10_isDirection_1 : decode cX10_isDirection 1 = .ok (.ifCond .lt 13, 3) := by decide +kernel
theorem dX10_isDirection_4 : decode cX10_isDirection 4 = .ok (.iload_n 0, 1) := by decide +kernel
theorem dX10_isDirection_5 : decode cX10_isDirection 5 = .ok (.bipush 8, 2) := by decide +kernel
theorem dX10_isDirection_7 : decode cX10_isDirection 7 = .ok (.if_icmp .ge 7, 3) := by decide +kernel
theorem dX10_isDirection_10 : decode cX10_isDirection 10 = .ok (.iconst 1, 1) := by decide +kernel
theorem dX10_isDirection_11 : decode cX10_isDirection 11 = .ok (.goto 4, 3) := by decide +kernel
theorem dX10_isDirection_14 : decode cX10_isDirection 14 = .ok (.iconst 0, 1) := by decide +kernel
theorem dX10_isDirection_15 : decode cX10_isDirection 15 = .ok (.ireturn, 1) := by decide +kernel
abbrev rmX10_isDirection : Room := { frames := 0, cells := 0, slots := 0, locals := 0 }
abbrev sX10_isDirection (E : EV) : List AV → AH → (Option AV → AH → Prop) → Prop := Spec E yX10_isDirection cX10_isDirection 1 (some .boolean) rmX10_isDirection
theorem mX10_isDirection : Mt yX10_isDirection cX10_isDirection 1 (some .boolean) 1 := ⟨k506, k1, by decide +kernel⟩
theorem vX10_isDirection : MtS yX10_isDirection := k505
def PX10_isDirection_0 (E : EV) (post : Option AV → AH → Prop) (h : AH) (l0 : Int32) : Prop :=
  (l0 < 0 → post (some (aI (0 : Int32))) h) ∧ (¬ l0 < 0 → ((8 : Int32) ≤ l0 → post (some (aI (0 : Int32))) h) ∧ (¬ (8 : Int32) ≤ l0 → post (some (aI (1 : Int32))) h))
theorem bX10_isDirection_0 {E : EV} {X : AX} {post : Option AV → AH → Prop} (C : Cb E X cX10_isDirection RX10 1 rmX10_isDirection) (D : Cr E X (some .boolean) rmX10_isDirection "isDirection" post) {h : AH} {l0 : Int32} (w : PX10_isDirection_0 E post h l0) : Go E X 1 0 0 0 [(0, aI l0)] [] h := by
  unfold PX10_isDirection_0 at w
  refine r_iload_n C dX10_isDirection_0 rfl 0 rfl ?_
  refine r_if_lt C dX10_isDirection_1 (tgt := 14) rfl (fun hc => ?_) (fun hc => ?_)
  · have w := w.1 hc
    refine r_iconst (v := 0) C dX10_isDirection_14 rfl ?_
    exact r_zret C D rfl (Or.inl rfl) (Nat.zero_le _) (Nat.zero_le _) dX10_isDirection_15 w
  · have w := w.2 hc
    refine r_iload_n C dX10_isDirection_4 rfl 0 rfl ?_
    refine r_bipush (v := 8) C dX10_isDirection_5 rfl ?_
    refine r_icmp_ge C dX10_isDirection_7 (tgt := 14) rfl (fun hc => ?_) (fun hc => ?_)
    · have w := w.1 hc
      refine r_iconst (v := 0) C dX10_isDirection_14 rfl ?_
      exact r_zret C D rfl (Or.inl rfl) (Nat.zero_le _) (Nat.zero_le _) dX10_isDirection_15 w
    · have w := w.2 hc
      refine r_iconst (v := 1) C dX10_isDirection_10 rfl ?_
      refine r_goto C dX10_isDirection_11 (tgt := 15) rfl ?_
      exact r_zret C D rfl (Or.inr rfl) (Nat.zero_le _) (Nat.zero_le _) dX10_isDirection_15 w
theorem eX10_isDirection {E : EV} {post : Option AV → AH → Prop} {h : AH} {l0 : Int32} (w : PX10_isDirection_0 E post h l0) : sX10_isDirection E [aI l0] h post := Spec.of RX10 rfl rfl (Nat.le_of_ble_eq_true rfl) fun X C D => bX10_isDirection_0 C D w
theorem dX10_escapes_0 : decode cX10_escapes 0 = .ok (.aload_n 0, 1) := by decide +kernel
theorem dX10_escapes_1 : decode cX10_escapes 1 = .ok (.iload_n 1, 1) := by decide +kernel
theorem dX10_escapes_2 : decode cX10_escapes 2 = .ok (.invokevirtual 258, 3) := by decide +kernel
theorem dX10_escapes_5 : decode cX10_escapes 5 = .ok (.ifCond .eq 10, 3) := by decide +kernel
theorem dX10_escapes_8 : decode cX10_escapes 8 = .ok (.iload_n 2, 1) := by decide +kernel
theorem dX10_escapes_9 : decode cX10_escapes 9 = .ok (.invokestatic 168, 3) := by decide +kernel
theorem dX10_escapes_12 : decode cX10_escapes 12 = .ok (.ifCond .ne 6, 3) := by decide +kernel
theorem dX10_escapes_15 : decode cX10_escapes 15 = .ok (.ldc 88, 2) := by decide +kernel
theorem dX10_escapes_17 : decode cX10_escapes 17 = .ok (.ireturn, 1) := by decide +kernel
theorem dX10_escapes_18 : decode cX10_escapes 18 = .ok (.aload_n 0, 1) := by decide +kernel
theorem dX10_escapes_19 : decode cX10_escapes 19 = .ok (.iload_n 1, 1) := by decide +kernel
theorem dX10_escapes_20 : decode cX10_escapes 20 = .ok (.iload_n 2, 1) := by decide +kernel
theorem dX10_escapes_21 : decode cX10_escapes 21 = .ok (.invokevirtual 301, 3) := by decide +kernel
theorem dX10_escapes_24 : decode cX10_escapes 24 = .ok (.ifCond .ne 7, 3) := by decide +kernel
theorem dX10_escapes_27 : decode cX10_escapes 27 = .ok (.iconst 1, 1) := by decide +kernel
theorem dX10_escapes_28 : decode cX10_escapes 28 = .ok (.goto 4, 3) := by decide +kernel
theorem dX10_escapes_31 : decode cX10_escapes 31 = .ok (.iconst 0, 1) := by decide +kernel
theorem dX10_escapes_32 : decode cX10_escapes 32 = .ok (.ireturn, 1) := by decide +kernel
abbrev rmX10_escapes : Room := { frames := 6, cells := 0, slots := 0, locals := 240 }
abbrev sX10_escapes (E : EV) : List AV → AH → (Option AV → AH → Prop) → Prop := Spec E yX10_escapes cX10_escapes 3 (some .int) rmX10_escapes
theorem mX10_escapes : Mt yX10_escapes cX10_escapes 3 (some .int) 2 := ⟨k503, k1, by decide +kernel⟩
theorem vX10_escapes : MtV yX10_escapes 10 := ⟨k501, k502, by decide, (RX10, TX10, 12), rfl, rfl⟩
def PX10_escapes_0 (E : EV) (post : Option AV → AH → Prop) (h : AH) (l0 : Option Nat) (l1 : Int32) (l2 : Int32) : Prop :=
  CV (sX10_isItem E) l0 10 [aI l1] h (kI fun x1 h2 => (x1 = 0 → post (some (aI (-1000001 : Int32))) h2) ∧ (¬ x1 = 0 → CS (sX10_isDirection E) [aI l2] h2 (kI fun x3 h4 => (¬ x3 = 0 → CV (sX10_blockersOf E) l0 10 [aI l1, aI l2] h4 (kI fun x5 h6 => (¬ x5 = 0 → post (some (aI (0 : Int32))) h6) ∧ (x5 = 0 → post (some (aI (1 : Int32))) h6))) ∧ (x3 = 0 → post (some (aI (-1000001 : Int32))) h4))))
theorem bX10_escapes_0 {E : EV} {X : AX} {post : Option AV → AH → Prop} (C : Cb E X cX10_escapes RX10 3 rmX10_escapes) (D : Cr E X (some .int) rmX10_escapes "escapes" post) {h : AH} {l0 : Option Nat} {l1 : Int32} {l2 : Int32} (w : PX10_escapes_0 E post h l0 l1 l2) : Go E X 3 0 0 0 [(0, aP l0), (1, aI l1), (2, aI l2)] [] h := by
  unfold PX10_escapes_0 at w
  refine r_aload_n C dX10_escapes_0 rfl 0 rfl ?_
  refine r_iload_n C dX10_escapes_1 rfl 1 rfl ?_
  refine r_cvI (rm' := rmX10_isItem) C mX10_isItem vX10_isItem k398 [aI l1] [] rfl rfl (Nat.le_of_ble_eq_true rfl) (by decide) ⟨Nat.zero_le _, Nat.zero_le _⟩ 0 0 rfl rfl dX10_escapes_2 w (fun x1 h2 w => ?_)
  refine r_if_eq C dX10_escapes_5 (tgt := 15) rfl (fun hc => ?_) (fun hc => ?_)
  · have w := w.1 hc
    refine r_ldc (v := -1000001) C dX10_escapes_15 k349 ?_
    exact r_iret C D rfl (Nat.zero_le _) (Nat.zero_le _) dX10_escapes_17 w
  · have w := w.2 hc
    refine r_iload_n C dX10_escapes_8 rfl 2 rfl ?_
    refine r_csI (rm' := rmX10_isDirection) C mX10_isDirection vX10_isDirection k504 [aI l2] [] rfl rfl (Nat.le_of_ble_eq_true rfl) (by decide) ⟨Nat.zero_le _, Nat.zero_le _⟩ 0 0 rfl rfl dX10_escapes_9 w (fun x3 h4 w => ?_)
    refine r_if_ne C dX10_escapes_12 (tgt := 18) rfl (fun hc => ?_) (fun hc => ?_)
    · have w := w.1 hc
      refine r_aload_n C dX10_escapes_18 rfl 0 rfl ?_
      refine r_iload_n C dX10_escapes_19 rfl 1 rfl ?_
      refine r_iload_n C dX10_escapes_20 rfl 2 rfl ?_
      refine r_cvI (rm' := rmX10_blockersOf) C mX10_blockersOf vX10_blockersOf k507 [aI l1, aI l2] [] rfl rfl (Nat.le_of_ble_eq_true rfl) (by decide) ⟨Nat.zero_le _, Nat.zero_le _⟩ 0 0 rfl rfl dX10_escapes_21 w (fun x5 h6 w => ?_)
      refine r_if_ne C dX10_escapes_24 (tgt := 31) rfl (fun hc => ?_) (fun hc => ?_)
      · have w := w.1 hc
        refine r_iconst (v := 0) C dX10_escapes_31 rfl ?_
        exact r_iret C D rfl (Nat.zero_le _) (Nat.zero_le _) dX10_escapes_32 w
      · have w := w.2 hc
        refine r_iconst (v := 1) C dX10_escapes_27 rfl ?_
        refine r_goto C dX10_escapes_28 (tgt := 32) rfl ?_
        exact r_iret C D rfl (Nat.zero_le _) (Nat.zero_le _) dX10_escapes_32 w
    · have w := w.2 hc
      refine r_ldc (v := -1000001) C dX10_escapes_15 k349 ?_
      exact r_iret C D rfl (Nat.zero_le _) (Nat.zero_le _) dX10_escapes_17 w
theorem eX10_escapes {E : EV} {post : Option AV → AH → Prop} {h : AH} {l0 : Option Nat} {l1 : Int32} {l2 : Int32} (w : PX10_escapes_0 E post h l0 l1 l2) : sX10_escapes E [aP l0, aI l1, aI l2] h post := Spec.of RX10 rfl rfl (Nat.le_of_ble_eq_true rfl) fun X C D => bX10_escapes_0 C D w
theorem dX10_extent_0 : decode cX10_extent 0 = .ok (.iload_n 1, 1) := by decide +kernel
theorem dX10_extent_1 : decode cX10_extent 1 = .ok (.invokestatic 98, 3) := by decide +kernel
theorem dX10_extent_4 : decode cX10_extent 4 = .ok (.ifCond .eq 10, 3) := by decide +kernel
theorem dX10_extent_7 : decode cX10_extent 7 = .ok (.iload_n 2, 1) := by decide +kernel
theorem dX10_extent_8 : decode cX10_extent 8 = .ok (.invokestatic 168, 3) := by decide +kernel
theorem dX10_extent_11 : decode cX10_extent 11 = .ok (.ifCond .ne 6, 3) := by decide +kernel
theorem dX10_extent_14 : decode cX10_extent 14 = .ok (.ldc 88, 2) := by decide +kernel
theorem dX10_extent_16 : decode cX10_extent 16 = .ok (.ireturn, 1) := by decide +kernel
theorem dX10_extent_17 : decode cX10_extent 17 = .ok (.aload_n 0, 1) := by decide +kernel
theorem dX10_extent_18 : decode cX10_extent 18 = .ok (.getfield 52, 3) := by decide +kernel
theorem dX10_extent_21 : decode cX10_extent 21 = .ok (.iload_n 1, 1) := by decide +kernel
theorem dX10_extent_22 : decode cX10_extent 22 = .ok (.invokevirtual 116, 3) := by decide +kernel
theorem dX10_extent_25 : decode cX10_extent 25 = .ok (.invokevirtual 120, 3) := by decide +kernel
theorem dX10_extent_28 : decode cX10_extent 28 = .ok (.ifCond .eq 6, 3) := by decide +kernel
theorem dX10_extent_31 : decode cX10_extent 31 = .ok (.ldc 124, 2) := by decide +kernel
theorem dX10_extent_33 : decode cX10_extent 33 = .ok (.ireturn, 1) := by decide +kernel
theorem dX10_extent_34 : decode cX10_extent 34 = .ok (.aload_n 0, 1) := by decide +kernel
theorem dX10_extent_35 : decode cX10_extent 35 = .ok (.getfield 52, 3) := by decide +kernel
theorem dX10_extent_38 : decode cX10_extent 38 = .ok (.iload_n 1, 1) := by decide +kernel
theorem dX10_extent_39 : decode cX10_extent 39 = .ok (.invokevirtual 116, 3) := by decide +kernel
theorem dX10_extent_42 : decode cX10_extent 42 = .ok (.iload_n 2, 1) := by decide +kernel
theorem dX10_extent_43 : decode cX10_extent 43 = .ok (.invokestatic 171, 3) := by decide +kernel
theorem dX10_extent_46 : decode cX10_extent 46 = .ok (.iload_n 2, 1) := by decide +kernel
theorem dX10_extent_47 : decode cX10_extent 47 = .ok (.invokestatic 174, 3) := by decide +kernel
theorem dX10_extent_50 : decode cX10_extent 50 = .ok (.invokevirtual 177, 3) := by decide +kernel
theorem dX10_extent_53 : decode cX10_extent 53 = .ok (.ireturn, 1) := by decide +kernel
abbrev rmX10_extent : Room := { frames := 2, cells := 0, slots := 0, locals := 80 }
abbrev sX10_extent (E : EV) : List AV → AH → (Option AV → AH → Prop) → Prop := Spec E yX10_extent cX10_extent 3 (some .int) rmX10_extent
theorem mX10_extent : Mt yX10_extent cX10_extent 3 (some .int) 2 := ⟨k595, k1, by decide +kernel⟩
theorem vX10_extent : MtV yX10_extent 10 := ⟨k593, k594, by decide, (RX10, TX10, 12), rfl, rfl⟩
def PX10_extent_0 (E : EV) (post : Option AV → AH → Prop) (h : AH) (l0 : Option Nat) (l1 : Int32) (l2 : Int32) : Prop :=
  CS (sX10_isSlot E) [aI l1] h (kI fun x1 h2 => (x1 = 0 → post (some (aI (-1000001 : Int32))) h2) ∧ (¬ x1 = 0 → CS (sX10_isDirection E) [aI l2] h2 (kI fun x3 h4 => (¬ x3 = 0 → rdP h4 l0 10 5 fun x5 => CV (sX8_slot E) x5 8 [aI l1] h4 (kP fun x6 h7 => CV (sX6_isEmpty E) x6 6 [] h7 (kI fun x8 h9 => (x8 = 0 → rdP h9 l0 10 5 fun x10 => CV (sX8_slot E) x10 8 [aI l1] h9 (kP fun x11 h12 => CS (sX10_directionX E) [aI l2] h12 (kI fun x13 h14 => CS (sX10_directionY E) [aI l2] h14 (kI fun x15 h16 => CV (sX6_reach E) x11 6 [aI x13, aI x15] h16 (kI fun x17 h18 => post (some (aI x17)) h18))))) ∧ (¬ x8 = 0 → post (some (aI (-1000002 : Int32))) h9)))) ∧ (x3 = 0 → post (some (aI (-1000001 : Int32))) h4))))
theorem bX10_extent_0 {E : EV} {X : AX} {post : Option AV → AH → Prop} (C : Cb E X cX10_extent RX10 3 rmX10_extent) (D : Cr E X (some .int) rmX10_extent "extent" post) {h : AH} {l0 : Option Nat} {l1 : Int32} {l2 : Int32} (w : PX10_extent_0 E post h l0 l1 l2) : Go E X 3 0 0 0 [(0, aP l0), (1, aI l1), (2, aI l2)] [] h := by
  unfold PX10_extent_0 at w
  refine r_iload_n C dX10_extent_0 rfl 1 rfl ?_
  refine r_csI (rm' := rmX10_isSlot) C mX10_isSlot vX10_isSlot k587 [aI l1] [] rfl rfl (Nat.le_of_ble_eq_true rfl) (by decide) ⟨Nat.zero_le _, Nat.zero_le _⟩ 0 0 rfl rfl dX10_extent_1 w (fun x1 h2 w => ?_)
  refine r_if_eq C dX10_extent_4 (tgt := 14) rfl (fun hc => ?_) (fun hc => ?_)
  · have w := w.1 hc
    refine r_ldc (v := -1000001) C dX10_extent_14 k349 ?_
    exact r_iret C D rfl (Nat.zero_le _) (Nat.zero_le _) dX10_extent_16 w
  · have w := w.2 hc
    refine r_iload_n C dX10_extent_7 rfl 2 rfl ?_
    refine r_csI (rm' := rmX10_isDirection) C mX10_isDirection vX10_isDirection k504 [aI l2] [] rfl rfl (Nat.le_of_ble_eq_true rfl) (by decide) ⟨Nat.zero_le _, Nat.zero_le _⟩ 0 0 rfl rfl dX10_extent_8 w (fun x3 h4 w => ?_)
    refine r_if_ne C dX10_extent_11 (tgt := 17) rfl (fun hc => ?_) (fun hc => ?_)
    · have w := w.1 hc
      refine r_aload_n C dX10_extent_17 rfl 0 rfl ?_
      refine r_getP C fcX10 (f := 5) (by decide) rfl k313 dX10_extent_18 (w.mono fun x5 w => ?_)
      refine r_iload_n C dX10_extent_21 rfl 1 rfl ?_
      refine r_cvP (rm' := rmX8_slot) C mX8_slot vX8_slot k590 [aI l1] [] rfl rfl (Nat.le_of_ble_eq_true rfl) (by decide) ⟨Nat.zero_le _, Nat.zero_le _⟩ 0 0 rfl rfl dX10_extent_22 w (fun x6 h7 w => ?_)
      refine r_cvI (rm' := rmX6_isEmpty) C mX6_isEmpty vX6_isEmpty k596 [] [] rfl rfl (Nat.le_of_ble_eq_true rfl) (by decide) ⟨Nat.zero_le _, Nat.zero_le _⟩ 0 0 rfl rfl dX10_extent_25 w (fun x8 h9 w => ?_)
      refine r_if_eq C dX10_extent_28 (tgt := 34) rfl (fun hc => ?_) (fun hc => ?_)
      · have w := w.1 hc
        refine r_aload_n C dX10_extent_34 rfl 0 rfl ?_
        refine r_getP C fcX10 (f := 5) (by decide) rfl k313 dX10_extent_35 (w.mono fun x10 w => ?_)
        refine r_iload_n C dX10_extent_38 rfl 1 rfl ?_
        refine r_cvP (rm' := rmX8_slot) C mX8_slot vX8_slot k590 [aI l1] [] rfl rfl (Nat.le_of_ble_eq_true rfl) (by decide) ⟨Nat.zero_le _, Nat.zero_le _⟩ 0 0 rfl rfl dX10_extent_39 w (fun x11 h12 w => ?_)
        refine r_iload_n C dX10_extent_42 rfl 2 rfl ?_
        refine r_csI (rm' := rmX10_directionX) C mX10_directionX vX10_directionX k511 [aI l2] [aP x11] rfl rfl (Nat.le_of_ble_eq_true rfl) (by decide) ⟨Nat.zero_le _, Nat.zero_le _⟩ 0 0 rfl rfl dX10_extent_43 w (fun x13 h14 w => ?_)
        refine r_iload_n C dX10_extent_46 rfl 2 rfl ?_
        refine r_csI (rm' := rmX10_directionY) C mX10_directionY vX10_directionY k516 [aI l2] [aI x13, aP x11] rfl rfl (Nat.le_of_ble_eq_true rfl) (by decide) ⟨Nat.zero_le _, Nat.zero_le _⟩ 0 0 rfl rfl dX10_extent_47 w (fun x15 h16 w => ?_)
        refine r_cvI (rm' := rmX6_reach) C mX6_reach vX6_reach k600 [aI x13, aI x15] [] rfl rfl (Nat.le_of_ble_eq_true rfl) (by decide) ⟨Nat.zero_le _, Nat.zero_le _⟩ 0 0 rfl rfl dX10_extent_50 w (fun x17 h18 w => ?_)
        exact r_iret C D rfl (Nat.zero_le _) (Nat.zero_le _) dX10_extent_53 w
      · have w := w.2 hc
        refine r_ldc (v := -1000002) C dX10_extent_31 k562 ?_
        exact r_iret C D rfl (Nat.zero_le _) (Nat.zero_le _) dX10_extent_33 w
    · have w := w.2 hc
      refine r_ldc (v := -1000001) C dX10_extent_14 k349 ?_
      exact r_iret C D rfl (Nat.zero_le _) (Nat.zero_le _) dX10_extent_16 w
theorem eX10_extent {E : EV} {post : Option AV → AH → Prop} {h : AH} {l0 : Option Nat} {l1 : Int32} {l2 : Int32} (w : PX10_extent_0 E post h l0 l1 l2) : sX10_extent E [aP l0, aI l1, aI l2] h post := Spec.of RX10 rfl rfl (Nat.le_of_ble_eq_true rfl) fun X C D => bX10_extent_0 C D w
theorem dX10_fits_0 : decode cX10_fits 0 = .ok (.aload_n 1, 1) := by decide +kernel
theorem dX10_fits_1 : decode cX10_fits 1 = .ok (.invokevirtual 120, 3) := by decide +kernel
theorem dX10_fits_4 : decode cX10_fits 4 = .ok (.ifCond .eq 5, 3) := by decide +kernel
theorem dX10_fits_7 : decode cX10_fits 7 = .ok (.iconst 0, 1) := by decide +kernel
theorem dX10_fits_8 : decode cX10_fits 8 = .ok (.ireturn, 1) := by decide +kernel
theorem dX10_fits_9 : decode cX10_fits 9 = .ok (.aload_n 0, 1) := by decide +kernel
theorem dX10_fits_10 : decode cX10_fits 10 = .ok (.getfield 43, 3) := by decide +kernel
theorem dX10_fits_13 : decode cX10_fits 13 = .ok (.aload_n 0, 1) := by decide +kernel
theorem dX10_fits_14 : decode cX10_fits 14 = .ok (.getfield 52, 3) := by decide +kernel
theorem dX10_fits_17 : decode cX10_fits 17 = .ok (.aload_n 1, 1) := by decide +kernel
theorem dX10_fits_18 : decode cX10_fits 18 = .ok (.iconst (-1), 1) := by decide +kernel
theorem dX10_fits_19 : decode cX10_fits 19 = .ok (.invokevirtual 263, 3) := by decide +kernel
theorem dX10_fits_22 : decode cX10_fits 22 = .ok (.aload_n 0, 1) := by decide +kernel
theorem dX10_fits_23 : decode cX10_fits 23 = .ok (.getfield 43, 3) := by decide +kernel
theorem dX10_fits_26 : decode cX10_fits 26 = .ok (.iload_n 2, 1) := by decide +kernel
theorem dX10_fits_27 : decode cX10_fits 27 = .ok (.iload_n 3, 1) := by decide +kernel
theorem dX10_fits_28 : decode cX10_fits 28 = .ok (.invokevirtual 335, 3) := by decide +kernel
theorem dX10_fits_31 : decode cX10_fits 31 = .ok (.ireturn, 1) := by decide +kernel
abbrev rmX10_fits : Room := { frames := 5, cells := 0, slots := 0, locals := 200 }
abbrev sX10_fits (E : EV) : List AV → AH → (Option AV → AH → Prop) → Prop := Spec E yX10_fits cX10_fits 4 (some .boolean) rmX10_fits
theorem mX10_fits : Mt yX10_fits cX10_fits 4 (some .boolean) 3 := ⟨k841, k1, by decide +kernel⟩
theorem vX10_fits : MtV yX10_fits 10 := ⟨k840, kp22, by decide, (RX10, TX10, 12), rfl, rfl⟩
def PX10_fits_0 (E : EV) (post : Option AV → AH → Prop) (h : AH) (l0 : Option Nat) (l1 : Option Nat) (l2 : Int32) (l3 : Int32) : Prop :=
  CV (sX6_isEmpty E) l1 6 [] h (kI fun x1 h2 => (x1 = 0 → rdP h2 l0 10 4 fun x3 => rdP h2 l0 10 5 fun x4 => CV (sX4_prepare E) x3 4 [aP x4, aP l1, aI (-1 : Int32)] h2 (kV fun h6 => rdP h6 l0 10 4 fun x7 => CV (sX4_isFree E) x7 4 [aI l2, aI l3] h6 (kI fun x8 h9 => (x8 = 0 ∨ x8 = 1) ∧ post (some (aI x8)) h9))) ∧ (¬ x1 = 0 → post (some (aI (0 : Int32))) h2))
theorem bX10_fits_0 {E : EV} {X : AX} {post : Option AV → AH → Prop} (C : Cb E X cX10_fits RX10 4 rmX10_fits) (D : Cr E X (some .boolean) rmX10_fits "fits" post) {h : AH} {l0 : Option Nat} {l1 : Option Nat} {l2 : Int32} {l3 : Int32} (w : PX10_fits_0 E post h l0 l1 l2 l3) : Go E X 4 0 0 0 [(0, aP l0), (1, aP l1), (2, aI l2), (3, aI l3)] [] h := by
  unfold PX10_fits_0 at w
  refine r_aload_n C dX10_fits_0 rfl 1 rfl ?_
  refine r_cvI (rm' := rmX6_isEmpty) C mX6_isEmpty vX6_isEmpty k596 [] [] rfl rfl (Nat.le_of_ble_eq_true rfl) (by decide) ⟨Nat.zero_le _, Nat.zero_le _⟩ 0 0 rfl rfl dX10_fits_1 w (fun x1 h2 w => ?_)
  refine r_if_eq C dX10_fits_4 (tgt := 9) rfl (fun hc => ?_) (fun hc => ?_)
  · have w := w.1 hc
    refine r_aload_n C dX10_fits_9 rfl 0 rfl ?_
    refine r_getP C fcX10 (f := 4) (by decide) rfl k312 dX10_fits_10 (w.mono fun x3 w => ?_)
    refine r_aload_n C dX10_fits_13 rfl 0 rfl ?_
    refine r_getP C fcX10 (f := 5) (by decide) rfl k313 dX10_fits_14 (w.mono fun x4 w => ?_)
    refine r_aload_n C dX10_fits_17 rfl 1 rfl ?_
    refine r_iconst (v := -1) C dX10_fits_18 rfl ?_
    refine r_cvV (rm' := rmX4_prepare) C mX4_prepare vX4_prepare k637 [aP x4, aP l1, aI (-1 : Int32)] [] rfl rfl (Nat.le_of_ble_eq_true rfl) (by decide) ⟨Nat.zero_le _, Nat.zero_le _⟩ 0 0 rfl rfl dX10_fits_19 w (fun h6 w => ?_)
    refine r_aload_n C dX10_fits_22 rfl 0 rfl ?_
    refine r_getP C fcX10 (f := 4) (by decide) rfl k312 dX10_fits_23 (w.mono fun x7 w => ?_)
    refine r_iload_n C dX10_fits_26 rfl 2 rfl ?_
    refine r_iload_n C dX10_fits_27 rfl 3 rfl ?_
    refine r_cvI (rm' := rmX4_isFree) C mX4_isFree vX4_isFree k788 [aI l2, aI l3] [] rfl rfl (Nat.le_of_ble_eq_true rfl) (by decide) ⟨Nat.zero_le _, Nat.zero_le _⟩ 0 0 rfl rfl dX10_fits_28 w (fun x8 h9 w => ?_)
    exact r_zret C D rfl w.1 (Nat.zero_le _) (Nat.zero_le _) dX10_fits_31 w.2
  · have w := w.2 hc
    refine r_iconst (v := 0) C dX10_fits_7 rfl ?_
    exact r_zret C D rfl (Or.inl rfl) (Nat.zero_le _) (Nat.zero_le _) dX10_fits_8 w
theorem eX10_fits {E : EV} {post : Option AV → AH → Prop} {h : AH} {l0 : Option Nat} {l1 : Option Nat} {l2 : Int32} {l3 : Int32} (w : PX10_fits_0 E post h l0 l1 l2 l3) : sX10_fits E [aP l0, aP l1, aI l2, aI l3] h post := Spec.of RX10 rfl rfl (Nat.le_of_ble_eq_true rfl) fun X C D => bX10_fits_0 C D w
theorem dX10_isSlotEmpty_0 : decode cX10_isSlotEmpty 0 = .ok (.aload_n 0, 1) := by decide +kernel
theorem dX10_isSlotEmpty_1 : decode cX10_isSlotEmpty 1 = .ok (.getfield 52, 3) := by decide +kernel
theorem dX10_isSlotEmpty_4 : decode cX10_isSlotEmpty 4 = .ok (.iload_n 1, 1) := by decide +kernel
theorem dX10_isSlotEmpty_5 : decode cX10_isSlotEmpty 5 = .ok (.invokevirtual 116, 3) := by decide +kernel
theorem dX10_isSlotEmpty_8 : decode cX10_isSlotEmpty 8 = .ok (.invokevirtual 120, 3) := by decide +kernel
theorem dX10_isSlotEmpty_11 : decode cX10_isSlotEmpty 11 = .ok (.ireturn, 1) := by decide +kernel
abbrev rmX10_isSlotEmpty : Room := { frames := 1, cells := 0, slots := 0, locals := 40 }
abbrev sX10_isSlotEmpty (E : EV) : List AV → AH → (Option AV → AH → Prop) → Prop := Spec E yX10_isSlotEmpty cX10_isSlotEmpty 2 (some .boolean) rmX10_isSlotEmpty
theorem mX10_isSlotEmpty : Mt yX10_isSlotEmpty cX10_isSlotEmpty 2 (some .boolean) 1 := ⟨k636, k1, by decide +kernel⟩
theorem vX10_isSlotEmpty : MtV yX10_isSlotEmpty 10 := ⟨k635, kp9, by decide, (RX10, TX10, 12), rfl, rfl⟩
def PX10_isSlotEmpty_0 (E : EV) (post : Option AV → AH → Prop) (h : AH) (l0 : Option Nat) (l1 : Int32) : Prop :=
  rdP h l0 10 5 fun x1 => CV (sX8_slot E) x1 8 [aI l1] h (kP fun x2 h3 => CV (sX6_isEmpty E) x2 6 [] h3 (kI fun x4 h5 => (x4 = 0 ∨ x4 = 1) ∧ post (some (aI x4)) h5))
theorem bX10_isSlotEmpty_0 {E : EV} {X : AX} {post : Option AV → AH → Prop} (C : Cb E X cX10_isSlotEmpty RX10 2 rmX10_isSlotEmpty) (D : Cr E X (some .boolean) rmX10_isSlotEmpty "isSlotEmpty" post) {h : AH} {l0 : Option Nat} {l1 : Int32} (w : PX10_isSlotEmpty_0 E post h l0 l1) : Go E X 2 0 0 0 [(0, aP l0), (1, aI l1)] [] h := by
  unfold PX10_isSlotEmpty_0 at w
  refine r_aload_n C dX10_isSlotEmpty_0 rfl 0 rfl ?_
  refine r_getP C fcX10 (f := 5) (by decide) rfl k313 dX10_isSlotEmpty_1 (w.mono fun x1 w => ?_)
  refine r_iload_n C dX10_isSlotEmpty_4 rfl 1 rfl ?_
  refine r_cvP (rm' := rmX8_slot) C mX8_slot vX8_slot k590 [aI l1] [] rfl rfl (Nat.le_of_ble_eq_true rfl) (by decide) ⟨Nat.zero_le _, Nat.zero_le _⟩ 0 0 rfl rfl dX10_isSlotEmpty_5 w (fun x2 h3 w => ?_)
  refine r_cvI (rm' := rmX6_isEmpty) C mX6_isEmpty vX6_isEmpty k596 [] [] rfl rfl (Nat.le_of_ble_eq_true rfl) (by decide) ⟨Nat.zero_le _, Nat.zero_le _⟩ 0 0 rfl rfl dX10_isSlotEmpty_8 w (fun x4 h5 w => ?_)
  exact r_zret C D rfl w.1 (Nat.zero_le _) (Nat.zero_le _) dX10_isSlotEmpty_11 w.2
theorem eX10_isSlotEmpty {E : EV} {post : Option AV → AH → Prop} {h : AH} {l0 : Option Nat} {l1 : Int32} (w : PX10_isSlotEmpty_0 E post h l0 l1) : sX10_isSlotEmpty E [aP l0, aI l1] h post := Spec.of RX10 rfl rfl (Nat.le_of_ble_eq_true rfl) fun X C D => bX10_isSlotEmpty_0 C D w
theorem dX10_freePlaces_0 : decode cX10_freePlaces 0 = .ok (.iload_n 1, 1) := by decide +kernel
theorem dX10_freePlaces_1 : decode cX10_freePlaces 1 = .ok (.invokestatic 98, 3) := by decide +kernel
theorem dX10_freePlaces_4 : decode cX10_freePlaces 4 = .ok (.ifCond .ne 6, 3) := by decide +kernel
theorem dX10_freePlaces_7 : decode cX10_freePlaces 7 = .ok (.ldc 88, 2) := by decide +kernel
theorem dX10_freePlaces_9 : decode cX10_freePlaces 9 = .ok (.ireturn, 1) := by decide +kernel
theorem dX10_freePlaces_10 : decode cX10_freePlaces 10 = .ok (.aload_n 0, 1) := by decide +kernel
theorem dX10_freePlaces_11 : decode cX10_freePlaces 11 = .ok (.iload_n 1, 1) := by decide +kernel
theorem dX10_freePlaces_12 : decode cX10_freePlaces 12 = .ok (.invokevirtual 188, 3) := by decide +kernel
theorem dX10_freePlaces_15 : decode cX10_freePlaces 15 = .ok (.ifCond .eq 6, 3) := by decide +kernel
theorem dX10_freePlaces_18 : decode cX10_freePlaces 18 = .ok (.ldc 124, 2) := by decide +kernel
theorem dX10_freePlaces_20 : decode cX10_freePlaces 20 = .ok (.ireturn, 1) := by decide +kernel
theorem dX10_freePlaces_21 : decode cX10_freePlaces 21 = .ok (.aload_n 0, 1) := by decide +kernel
theorem dX10_freePlaces_22 : decode cX10_freePlaces 22 = .ok (.getfield 43, 3) := by decide +kernel
theorem dX10_freePlaces_25 : decode cX10_freePlaces 25 = .ok (.aload_n 0, 1) := by decide +kernel
theorem dX10_freePlaces_26 : decode cX10_freePlaces 26 = .ok (.getfield 52, 3) := by decide +kernel
theorem dX10_freePlaces_29 : decode cX10_freePlaces 29 = .ok (.aload_n 0, 1) := by decide +kernel
theorem dX10_freePlaces_30 : decode cX10_freePlaces 30 = .ok (.getfield 52, 3) := by decide +kernel
theorem dX10_freePlaces_33 : decode cX10_freePlaces 33 = .ok (.iload_n 1, 1) := by decide +kernel
theorem dX10_freePlaces_34 : decode cX10_freePlaces 34 = .ok (.invokevirtual 116, 3) := by decide +kernel
theorem dX10_freePlaces_37 : decode cX10_freePlaces 37 = .ok (.iconst (-1), 1) := by decide +kernel
theorem dX10_freePlaces_38 : decode cX10_freePlaces 38 = .ok (.invokevirtual 263, 3) := by decide +kernel
theorem dX10_freePlaces_41 : decode cX10_freePlaces 41 = .ok (.aload_n 0, 1) := by decide +kernel
theorem dX10_freePlaces_42 : decode cX10_freePlaces 42 = .ok (.getfield 43, 3) := by decide +kernel
theorem dX10_freePlaces_45 : decode cX10_freePlaces 45 = .ok (.invokevirtual 276, 3) := by decide +kernel
theorem dX10_freePlaces_48 : decode cX10_freePlaces 48 = .ok (.ireturn, 1) := by decide +kernel
abbrev rmX10_freePlaces : Room := { frames := 5, cells := 0, slots := 0, locals := 200 }
abbrev sX10_freePlaces (E : EV) : List AV → AH → (Option AV → AH → Prop) → Prop := Spec E yX10_freePlaces cX10_freePlaces 2 (some .int) rmX10_freePlaces
theorem mX10_freePlaces : Mt yX10_freePlaces cX10_freePlaces 2 (some .int) 1 := ⟨k632, k1, by decide +kernel⟩
theorem vX10_freePlaces : MtV yX10_freePlaces 10 := ⟨k630, k631, by decide, (RX10, TX10, 12), rfl, rfl⟩
def PX10_freePlaces_0 (E : EV) (post : Option AV → AH → Prop) (h : AH) (l0 : Option Nat) (l1 : Int32) : Prop :=
  CS (sX10_isSlot E) [aI l1] h (kI fun x1 h2 => (¬ x1 = 0 → CV (sX10_isSlotEmpty E) l0 10 [aI l1] h2 (kI fun x3 h4 => (x3 = 0 → rdP h4 l0 10 4 fun x5 => rdP h4 l0 10 5 fun x6 => rdP h4 l0 10 5 fun x7 => CV (sX8_slot E) x7 8 [aI l1] h4 (kP fun x8 h9 => CV (sX4_prepare E) x5 4 [aP x6, aP x8, aI (-1 : Int32)] h9 (kV fun h11 => rdP h11 l0 10 4 fun x12 => CV (sX4_countFree E) x12 4 [] h11 (kI fun x13 h14 => post (some (aI x13)) h14)))) ∧ (¬ x3 = 0 → post (some (aI (-1000002 : Int32))) h4))) ∧ (x1 = 0 → post (some (aI (-1000001 : Int32))) h2))
theorem bX10_freePlaces_0 {E : EV} {X : AX} {post : Option AV → AH → Prop} (C : Cb E X cX10_freePlaces RX10 2 rmX10_freePlaces) (D : Cr E X (some .int) rmX10_freePlaces "freePlaces" post) {h : AH} {l0 : Option Nat} {l1 : Int32} (w : PX10_freePlaces_0 E post h l0 l1) : Go E X 2 0 0 0 [(0, aP l0), (1, aI l1)] [] h := by
  unfold PX10_freePlaces_0 at w
  refine r_iload_n C dX10_freePlaces_0 rfl 1 rfl ?_
  refine r_csI (rm' := rmX10_isSlot) C mX10_isSlot vX10_isSlot k587 [aI l1] [] rfl rfl (Nat.le_of_ble_eq_true rfl) (by decide) ⟨Nat.zero_le _, Nat.zero_le _⟩ 0 0 rfl rfl dX10_freePlaces_1 w (fun x1 h2 w => ?_)
  refine r_if_ne C dX10_freePlaces_4 (tgt := 10) rfl (fun hc => ?_) (fun hc => ?_)
  · have w := w.1 hc
    refine r_aload_n C dX10_freePlaces_10 rfl 0 rfl ?_
    refine r_iload_n C dX10_freePlaces_11 rfl 1 rfl ?_
    refine r_cvI (rm' := rmX10_isSlotEmpty) C mX10_isSlotEmpty vX10_isSlotEmpty k633 [aI l1] [] rfl rfl (Nat.le_of_ble_eq_true rfl) (by decide) ⟨Nat.zero_le _, Nat.zero_le _⟩ 0 0 rfl rfl dX10_freePlaces_12 w (fun x3 h4 w => ?_)
    refine r_if_eq C dX10_freePlaces_15 (tgt := 21) rfl (fun hc => ?_) (fun hc => ?_)
    · have w := w.1 hc
      refine r_aload_n C dX10_freePlaces_21 rfl 0 rfl ?_
      refine r_getP C fcX10 (f := 4) (by decide) rfl k312 dX10_freePlaces_22 (w.mono fun x5 w => ?_)
      refine r_aload_n C dX10_freePlaces_25 rfl 0 rfl ?_
      refine r_getP C fcX10 (f := 5) (by decide) rfl k313 dX10_freePlaces_26 (w.mono fun x6 w => ?_)
      refine r_aload_n C dX10_freePlaces_29 rfl 0 rfl ?_
      refine r_getP C fcX10 (f := 5) (by decide) rfl k313 dX10_freePlaces_30 (w.mono fun x7 w => ?_)
      refine r_iload_n C dX10_freePlaces_33 rfl 1 rfl ?_
      refine r_cvP (rm' := rmX8_slot) C mX8_slot vX8_slot k590 [aI l1] [aP x6, aP x5] rfl rfl (Nat.le_of_ble_eq_true rfl) (by decide) ⟨Nat.zero_le _, Nat.zero_le _⟩ 0 0 rfl rfl dX10_freePlaces_34 w (fun x8 h9 w => ?_)
      refine r_iconst (v := -1) C dX10_freePlaces_37 rfl ?_
      refine r_cvV (rm' := rmX4_prepare) C mX4_prepare vX4_prepare k637 [aP x6, aP x8, aI (-1 : Int32)] [] rfl rfl (Nat.le_of_ble_eq_true rfl) (by decide) ⟨Nat.zero_le _, Nat.zero_le _⟩ 0 0 rfl rfl dX10_freePlaces_38 w (fun h11 w => ?_)
      refine r_aload_n C dX10_freePlaces_41 rfl 0 rfl ?_
      refine r_getP C fcX10 (f := 4) (by decide) rfl k312 dX10_freePlaces_42 (w.mono fun x12 w => ?_)
      refine r_cvI (rm' := rmX4_countFree) C mX4_countFree vX4_countFree k654 [] [] rfl rfl (Nat.le_of_ble_eq_true rfl) (by decide) ⟨Nat.zero_le _, Nat.zero_le _⟩ 0 0 rfl rfl dX10_freePlaces_45 w (fun x13 h14 w => ?_)
      exact r_iret C D rfl (Nat.zero_le _) (Nat.zero_le _) dX10_freePlaces_48 w
    · have w := w.2 hc
      refine r_ldc (v := -1000002) C dX10_freePlaces_18 k562 ?_
      exact r_iret C D rfl (Nat.zero_le _) (Nat.zero_le _) dX10_freePlaces_20 w
  · have w := w.2 hc
    refine r_ldc (v := -1000001) C dX10_freePlaces_7 k349 ?_
    exact r_iret C D rfl (Nat.zero_le _) (Nat.zero_le _) dX10_freePlaces_9 w
theorem eX10_freePlaces {E : EV} {post : Option AV → AH → Prop} {h : AH} {l0 : Option Nat} {l1 : Int32} (w : PX10_freePlaces_0 E post h l0 l1) : sX10_freePlaces E [aP l0, aI l1] h post := Spec.of RX10 rfl rfl (Nat.le_of_ble_eq_true rfl) fun X C D => bX10_freePlaces_0 C D w
theorem dX10_init_0 : decode cX10_init 0 = .ok (.aload_n 0, 1) := by decide +kernel
theorem dX10_init_1 : decode cX10_init 1 = .ok (.invokespecial 1, 3) := by decide +kernel
theorem dX10_init_4 : decode cX10_init 4 = .ok (.new 7, 3) := by decide +kernel
theorem dX10_init_7 : decode cX10_init 7 = .ok (.dup, 1) := by decide +kernel
theorem dX10_init_8 : decode cX10_init 8 = .ok (.invokespecial 9, 3) := by decide +kernel
theorem dX10_init_11 : decode cX10_init 11 = .ok (.astore_n 1, 1) := by decide +kernel
theorem dX10_init_12 : decode cX10_init 12 = .ok (.aload_n 0, 1) := by decide +kernel
theorem dX10_init_13 : decode cX10_init 13 = .ok (.new 10, 3) := by decide +kernel
theorem dX10_init_16 : decode cX10_init 16 = .ok (.dup, 1) := by decide +kernel
theorem dX10_init_17 : decode cX10_init 17 = .ok (.invokespecial 12, 3) := by decide +kernel
theorem dX10_init_20 : decode cX10_init 20 = .ok (.putfield 13, 3) := by decide +kernel
theorem dX10_init_23 : decode cX10_init 23 = .ok (.aload_n 0, 1) := by decide +kernel
theorem dX10_init_24 : decode cX10_init 24 = .ok (.new 19, 3) := by decide +kernel
theorem dX10_init_27 : decode cX10_init 27 = .ok (.dup, 1) := by decide +kernel
theorem dX10_init_28 : decode cX10_init 28 = .ok (.invokespecial 21, 3) := by decide +kernel
theorem dX10_init_31 : decode cX10_init 31 = .ok (.putfield 22, 3) := by decide +kernel
theorem dX10_init_34 : decode cX10_init 34 = .ok (.aload_n 0, 1) := by decide +kernel
theorem dX10_init_35 : decode cX10_init 35 = .ok (.new 26, 3) := by decide +kernel
theorem dX10_init_38 : decode cX10_init 38 = .ok (.dup, 1) := by decide +kernel
theorem dX10_init_39 : decode cX10_init 39 = .ok (.invokespecial 28, 3) := by decide +kernel
theorem dX10_init_42 : decode cX10_init 42 = .ok (.putfield 29, 3) := by decide +kernel
theorem dX10_init_45 : decode cX10_init 45 = .ok (.aload_n 0, 1) := by decide +kernel
theorem dX10_init_46 : decode cX10_init 46 = .ok (.new 33, 3) := by decide +kernel
theorem dX10_init_49 : decode cX10_init 49 = .ok (.dup, 1) := by decide +kernel
theorem dX10_init_50 : decode cX10_init 50 = .ok (.invokespecial 35, 3) := by decide +kernel
theorem dX10_init_53 : decode cX10_init 53 = .ok (.putfield 36, 3) := by decide +kernel
theorem dX10_init_56 : decode cX10_init 56 = .ok (.aload_n 0, 1) := by decide +kernel
theorem dX10_init_57 : decode cX10_init 57 = .ok (.new 40, 3) := by decide +kernel
theorem dX10_init_60 : decode cX10_init 60 = .ok (.dup, 1) := by decide +kernel
theorem dX10_init_61 : decode cX10_init 61 = .ok (.invokespecial 42, 3) := by decide +kernel
theorem dX10_init_64 : decode cX10_init 64 = .ok (.putfield 43, 3) := by decide +kernel
theorem dX10_init_67 : decode cX10_init 67 = .ok (.aload_n 0, 1) := by decide +kernel
theorem dX10_init_68 : decode cX10_init 68 = .ok (.new 47, 3) := by decide +kernel
theorem dX10_init_71 : decode cX10_init 71 = .ok (.dup, 1) := by decide +kernel
theorem dX10_init_72 : decode cX10_init 72 = .ok (.aload_n 1, 1) := by decide +kernel
theorem dX10_init_73 : decode cX10_init 73 = .ok (.invokespecial 49, 3) := by decide +kernel
theorem dX10_init_76 : decode cX10_init 76 = .ok (.putfield 52, 3) := by decide +kernel
theorem dX10_init_79 : decode cX10_init 79 = .ok (.aload_n 0, 1) := by decide +kernel
theorem dX10_init_80 : decode cX10_init 80 = .ok (.new 47, 3) := by decide +kernel
theorem dX10_init_83 : decode cX10_init 83 = .ok (.dup, 1) := by decide +kernel
theorem dX10_init_84 : decode cX10_init 84 = .ok (.aload_n 1, 1) := by decide +kernel
theorem dX10_init_85 : decode cX10_init 85 = .ok (.invokespecial 49, 3) := by decide +kernel
theorem dX10_init_88 : decode cX10_init 88 = .ok (.putfield 56, 3) := by decide +kernel
theorem dX10_init_91 : decode cX10_init 91 = .ok (.aload_n 0, 1) := by decide +kernel
theorem dX10_init_92 : decode cX10_init 92 = .ok (.new 59, 3) := by decide +kernel
theorem dX10_init_95 : decode cX10_init 95 = .ok (.dup, 1) := by decide +kernel
theorem dX10_init_96 : decode cX10_init 96 = .ok (.aload_n 1, 1) := by decide +kernel
theorem dX10_init_97 : decode cX10_init 97 = .ok (.invokespecial 61, 3) := by decide +kernel
theorem dX10_init_100 : decode cX10_init 100 = .ok (.putfield 62, 3) := by decide +kernel
theorem dX10_init_103 : decode cX10_init 103 = .ok (.aload_n 0, 1) := by decide +kernel
theorem dX10_init_104 : decode cX10_init 104 = .ok (.new 66, 3) := by decide +kernel
theorem dX10_init_107 : decode cX10_init 107 = .ok (.dup, 1) := by decide +kernel
theorem dX10_init_108 : decode cX10_init 108 = .ok (.invokespecial 68, 3) := by decide +kernel
theorem dX10_init_111 : decode cX10_init 111 = .ok (.putfield 69, 3) := by decide +kernel
theorem dX10_init_114 : decode cX10_init 114 = .ok (.aload_n 0, 1) := by decide +kernel
theorem dX10_init_115 : decode cX10_init 115 = .ok (.new 7, 3) := by decide +kernel
theorem dX10_init_118 : decode cX10_init 118 = .ok (.dup, 1) := by decide +kernel
theorem dX10_init_119 : decode cX10_init 119 = .ok (.invokespecial 9, 3) := by decide +kernel
theorem dX10_init_122 : decode cX10_init 122 = .ok (.putfield 73, 3) := by decide +kernel
theorem dX10_init_125 : decode cX10_init 125 = .ok (.aload_n 0, 1) := by decide +kernel
theorem dX10_init_126 : decode cX10_init 126 = .ok (.new 77, 3) := by decide +kernel
theorem dX10_init_129 : decode cX10_init 129 = .ok (.dup, 1) := by decide +kernel
theorem dX10_init_130 : decode cX10_init 130 = .ok (.invokespecial 79, 3) := by decide +kernel
theorem dX10_init_133 : decode cX10_init 133 = .ok (.putfield 80, 3) := by decide +kernel
theorem dX10_init_136 : decode cX10_init 136 = .ok (.aload_n 0, 1) := by decide +kernel
theorem dX10_init_137 : decode cX10_init 137 = .ok (.bipush 8, 2) := by decide +kernel
theorem dX10_init_139 : decode cX10_init 139 = .ok (.newarray .int, 2) := by decide +kernel
theorem dX10_init_141 : decode cX10_init 141 = .ok (.putfield 84, 3) := by decide +kernel
theorem dX10_init_144 : decode cX10_init 144 = .ok (.return_, 1) := by decide +kernel
abbrev rmX10_init : Room := { frames := 4, cells := 350, slots := 6000, locals := 160 }
abbrev sX10_init (E : EV) : List AV → AH → (Option AV → AH → Prop) → Prop := Spec E yX10_init cX10_init 2 none rmX10_init
theorem mX10_init : Mt yX10_init cX10_init 2 none 0 := ⟨k17, k1, by decide +kernel⟩
theorem vX10_init : MtI yX10_init := ⟨rfl, k16⟩
def PX10_init_103 (E : EV) (post : Option AV → AH → Prop) (k n : Nat) (h : AH) (l0 : Nat) : Prop :=
  (k + 1 ≤ 350 ∧ n + 8 ≤ 6000) ∧ (∀ h1, h1 = h ++ [.inr (5, [aP none, aP none, aI 0, aI 0, aI 0, aI 0, aI 0, aI 0])] → ((k + 1) + 2 ≤ 350 ∧ (n + 8) + 36 ≤ 6000) ∧ CS (sX5_init E) [aP (some h.length)] h1 (kV fun h3 => wr h3 (some l0) 10 8 (aP (some h.length)) fun h4 => (((k + 1) + 2) + 1 ≤ 350 ∧ ((n + 8) + 36) + 9 ≤ 6000) ∧ (∀ h5, h5 = h4 ++ [.inr (6, [aP none, aP none, aP none, aI 0, aI 0, aI 0, aI 0, aI 0, aI 0])] → ((((k + 1) + 2) + 1) + 3 ≤ 350 ∧ (((n + 8) + 36) + 9) + 40 ≤ 6000) ∧ CS (sX6_init E) [aP (some h4.length)] h5 (kV fun h7 => wr h7 (some l0) 10 9 (aP (some h4.length)) fun h8 => (((((k + 1) + 2) + 1) + 3) + 1 ≤ 350 ∧ ((((n + 8) + 36) + 9) + 40) + 2 ≤ 6000) ∧ (∀ h9, h9 = h8 ++ [.inr (0, [aJ 0, aJ 0])] → ((((((k + 1) + 2) + 1) + 3) + 1) ≤ 350 ∧ (((((n + 8) + 36) + 9) + 40) + 2) ≤ 6000) ∧ CS (sX0_init E) [aP (some h8.length)] h9 (kV fun h11 => wr h11 (some l0) 10 10 (aP (some h8.length)) fun h12 => ((((((k + 1) + 2) + 1) + 3) + 1) + 1 ≤ 350 ∧ (((((n + 8) + 36) + 9) + 40) + 2) + 8 ≤ 6000) ∧ (∀ h13, h13 = h12 ++ [.inl (0, List.replicate 8 0)] → wr h13 (some l0) 10 11 (aP (some h12.length)) fun h14 => (((((((k + 1) + 2) + 1) + 3) + 1) + 1) ≤ 350 ∧ ((((((n + 8) + 36) + 9) + 40) + 2) + 8) ≤ 6000) ∧ post none h14)))))))
theorem bX10_init_103 {E : EV} {X : AX} {post : Option AV → AH → Prop} (C : Cb E X cX10_init RX10 2 rmX10_init) (D : Cr E X none rmX10_init "<init>" post) {k n : Nat} {h : AH} {l0 : Nat} (w : PX10_init_103 E post k n h l0) : Go E X 2 k n 103 [(0, aP (some l0))] [] h := by
  unfold PX10_init_103 at w
  refine r_aload_n C dX10_init_103 rfl 0 rfl ?_
  refine r_new (fs := [aP none, aP none, aI 0, aI 0, aI 0, aI 0, aI 0, aI 0]) C fcX5 rfl df_X5 k304 k101 k5 w.1.1 w.1.2 dX10_init_104 ?_
  have w := w.2 _ rfl
  generalize h ++ [.inr (5, [aP none, aP none, aI 0, aI 0, aI 0, aI 0, aI 0, aI 0])] = h1 at w ⊢
  refine r_dup C dX10_init_107 rfl ?_
  refine r_ciV (rm' := rmX5_init) C mX5_init vX5_init (host := "NestingPlanner") (Or.inr nk305) [] [aP (some h.length), aP (some l0)] rfl rfl (Nat.le_of_ble_eq_true rfl) (by decide) w.1 ((k + 1) + 2) ((n + 8) + 36) rfl rfl dX10_init_108 rfl w.2 (fun h3 w => ?_)
  refine r_putF C D fcX10 (f := 8) (by decide) rfl rfl rfl rfl (ft_P _ _) k316 dX10_init_111 (w.mono fun h4 w => ?_)
  refine r_aload_n C dX10_init_114 rfl 0 rfl ?_
  refine r_new (fs := [aP none, aP none, aP none, aI 0, aI 0, aI 0, aI 0, aI 0, aI 0]) C fcX6 rfl df_X6 k21 k22 k2 w.1.1 w.1.2 dX10_init_115 ?_
  have w := w.2 _ rfl
  generalize h4 ++ [.inr (6, [aP none, aP none, aP none, aI 0, aI 0, aI 0, aI 0, aI 0, aI 0])] = h5 at w ⊢
  refine r_dup C dX10_init_118 rfl ?_
  refine r_ciV (rm' := rmX6_init) C mX6_init vX6_init (host := "NestingPlanner") (Or.inr nk23) [] [aP (some h4.length), aP (some l0)] rfl rfl (Nat.le_of_ble_eq_true rfl) (by decide) w.1 ((((k + 1) + 2) + 1) + 3) ((((n + 8) + 36) + 9) + 40) rfl rfl dX10_init_119 rfl w.2 (fun h7 w => ?_)
  refine r_putF C D fcX10 (f := 9) (by decide) rfl rfl rfl rfl (ft_P _ _) k317 dX10_init_122 (w.mono fun h8 w => ?_)
  refine r_aload_n C dX10_init_125 rfl 0 rfl ?_
  refine r_new (fs := [aJ 0, aJ 0]) C fcX0 rfl df_X0 k306 k169 k8 w.1.1 w.1.2 dX10_init_126 ?_
  have w := w.2 _ rfl
  generalize h8 ++ [.inr (0, [aJ 0, aJ 0])] = h9 at w ⊢
  refine r_dup C dX10_init_129 rfl ?_
  refine r_ciV (rm' := rmX0_init) C mX0_init vX0_init (host := "NestingPlanner") (Or.inr nk307) [] [aP (some h8.length), aP (some l0)] rfl rfl (Nat.le_of_ble_eq_true rfl) (by decide) w.1 (((((k + 1) + 2) + 1) + 3) + 1) (((((n + 8) + 36) + 9) + 40) + 2) rfl rfl dX10_init_130 rfl w.2 (fun h11 w => ?_)
  refine r_putF C D fcX10 (f := 10) (by decide) rfl rfl rfl rfl (ft_P _ _) k318 dX10_init_133 (w.mono fun h12 w => ?_)
  refine r_aload_n C dX10_init_136 rfl 0 rfl ?_
  refine r_bipush (v := 8) C dX10_init_137 rfl ?_
  refine r_newaI 0 .int rfl 0 rfl ra_int rfl (N' := 8) C k66 (by decide) rfl (by decide) w.1.1 w.1.2 dX10_init_139 ?_
  have w := w.2 _ rfl
  generalize h12 ++ [.inl (0, List.replicate 8 0)] = h13 at w ⊢
  refine r_putF C D fcX10 (f := 11) (by decide) rfl rfl rfl rfl (ft_A _ _) k319 dX10_init_141 (w.mono fun h14 w => ?_)
  exact r_vret C D rfl w.1.1 w.1.2 dX10_init_144 w.2
def PX10_init_56 (E : EV) (post : Option AV → AH → Prop) (k n : Nat) (h : AH) (l0 : Nat) (l1 : Option Nat) : Prop :=
  (k + 1 ≤ 350 ∧ n + 10 ≤ 6000) ∧ (∀ h1, h1 = h ++ [.inr (4, [aP none, aP none, aP none, aI 0, aI 0, aI 0, aI 0, aI 0, aI 0, aI 0])] → ((k + 1) + 231 ≤ 350 ∧ (n + 10) + 3422 ≤ 6000) ∧ CS (sX4_init E) [aP (some h.length)] h1 (kV fun h3 => wr h3 (some l0) 10 4 (aP (some h.length)) fun h4 => (((k + 1) + 231) + 1 ≤ 350 ∧ ((n + 10) + 3422) + 9 ≤ 6000) ∧ (∀ h5, h5 = h4 ++ [.inr (8, [aP none, aP none, aP none, aP none, aP none, aI 0, aI 0, aI 0, aI 0])] → ((((k + 1) + 231) + 1) + 4 ≤ 350 ∧ (((n + 10) + 3422) + 9) + 28 ≤ 6000) ∧ CS (sX8_init E) [aP (some h4.length), aP l1] h5 (kV fun h7 => wr h7 (some l0) 10 5 (aP (some h4.length)) fun h8 => (((((k + 1) + 231) + 1) + 4) + 1 ≤ 350 ∧ ((((n + 10) + 3422) + 9) + 28) + 9 ≤ 6000) ∧ (∀ h9, h9 = h8 ++ [.inr (8, [aP none, aP none, aP none, aP none, aP none, aI 0, aI 0, aI 0, aI 0])] → ((((((k + 1) + 231) + 1) + 4) + 1) + 4 ≤ 350 ∧ (((((n + 10) + 3422) + 9) + 28) + 9) + 28 ≤ 6000) ∧ CS (sX8_init E) [aP (some h8.length), aP l1] h9 (kV fun h11 => wr h11 (some l0) 10 6 (aP (some h8.length)) fun h12 => (((((((k + 1) + 231) + 1) + 4) + 1) + 4) + 1 ≤ 350 ∧ ((((((n + 10) + 3422) + 9) + 28) + 9) + 28) + 2 ≤ 6000) ∧ (∀ h13, h13 = h12 ++ [.inr (1, [aP none, aI 0])] → ((((((((k + 1) + 231) + 1) + 4) + 1) + 4) + 1) + 31 ≤ 350 ∧ (((((((n + 10) + 3422) + 9) + 28) + 9) + 28) + 2) + 228 ≤ 6000) ∧ CS (sX1_init E) [aP (some h12.length), aP l1] h13 (kV fun h15 => wr h15 (some l0) 10 7 (aP (some h12.length)) fun h16 => PX10_init_103 E post ((((((((k + 1) + 231) + 1) + 4) + 1) + 4) + 1) + 31) ((((((((n + 10) + 3422) + 9) + 28) + 9) + 28) + 2) + 228) h16 l0))))))))
theorem bX10_init_56 {E : EV} {X : AX} {post : Option AV → AH → Prop} (C : Cb E X cX10_init RX10 2 rmX10_init) (D : Cr E X none rmX10_init "<init>" post) {k n : Nat} {h : AH} {l0 : Nat} {l1 : Option Nat} (w : PX10_init_56 E post k n h l0 l1) : Go E X 2 k n 56 [(0, aP (some l0)), (1, aP l1)] [] h := by
  unfold PX10_init_56 at w
  refine r_aload_n C dX10_init_56 rfl 0 rfl ?_
  refine r_new (fs := [aP none, aP none, aP none, aI 0, aI 0, aI 0, aI 0, aI 0, aI 0, aI 0]) C fcX4 rfl df_X4 k198 k199 k9 w.1.1 w.1.2 dX10_init_57 ?_
  have w := w.2 _ rfl
  generalize h ++ [.inr (4, [aP none, aP none, aP none, aI 0, aI 0, aI 0, aI 0, aI 0, aI 0, aI 0])] = h1 at w ⊢
  refine r_dup C dX10_init_60 rfl ?_
  refine r_ciV (rm' := rmX4_init) C mX4_init vX4_init (host := "") (Or.inl k200) [] [aP (some h.length), aP (some l0)] rfl rfl (Nat.le_of_ble_eq_true rfl) (by decide) w.1 ((k + 1) + 231) ((n + 10) + 3422) rfl rfl dX10_init_61 rfl w.2 (fun h3 w => ?_)
  refine r_putF C D fcX10 (f := 4) (by decide) rfl rfl rfl rfl (ft_P _ _) k312 dX10_init_64 (w.mono fun h4 w => ?_)
  refine r_aload_n C dX10_init_67 rfl 0 rfl ?_
  refine r_new (fs := [aP none, aP none, aP none, aP none, aP none, aI 0, aI 0, aI 0, aI 0]) C fcX8 rfl df_X8 k242 k243 k10 w.1.1 w.1.2 dX10_init_68 ?_
  have w := w.2 _ rfl
  generalize h4 ++ [.inr (8, [aP none, aP none, aP none, aP none, aP none, aI 0, aI 0, aI 0, aI 0])] = h5 at w ⊢
  refine r_dup C dX10_init_71 rfl ?_
  refine r_aload_n C dX10_init_72 rfl 1 rfl ?_
  refine r_ciV (rm' := rmX8_init) C mX8_init vX8_init (host := "") (Or.inl k244) [aP l1] [aP (some h4.length), aP (some l0)] rfl rfl (Nat.le_of_ble_eq_true rfl) (by decide) w.1 ((((k + 1) + 231) + 1) + 4) ((((n + 10) + 3422) + 9) + 28) rfl rfl dX10_init_73 rfl w.2 (fun h7 w => ?_)
  refine r_putF C D fcX10 (f := 5) (by decide) rfl rfl rfl rfl (ft_P _ _) k313 dX10_init_76 (w.mono fun h8 w => ?_)
  refine r_aload_n C dX10_init_79 rfl 0 rfl ?_
  refine r_new (fs := [aP none, aP none, aP none, aP none, aP none, aI 0, aI 0, aI 0, aI 0]) C fcX8 rfl df_X8 k242 k243 k10 w.1.1 w.1.2 dX10_init_80 ?_
  have w := w.2 _ rfl
  generalize h8 ++ [.inr (8, [aP none, aP none, aP none, aP none, aP none, aI 0, aI 0, aI 0, aI 0])] = h9 at w ⊢
  refine r_dup C dX10_init_83 rfl ?_
  refine r_aload_n C dX10_init_84 rfl 1 rfl ?_
  refine r_ciV (rm' := rmX8_init) C mX8_init vX8_init (host := "") (Or.inl k244) [aP l1] [aP (some h8.length), aP (some l0)] rfl rfl (Nat.le_of_ble_eq_true rfl) (by decide) w.1 ((((((k + 1) + 231) + 1) + 4) + 1) + 4) ((((((n + 10) + 3422) + 9) + 28) + 9) + 28) rfl rfl dX10_init_85 rfl w.2 (fun h11 w => ?_)
  refine r_putF C D fcX10 (f := 6) (by decide) rfl rfl rfl rfl (ft_P _ _) k314 dX10_init_88 (w.mono fun h12 w => ?_)
  refine r_aload_n C dX10_init_91 rfl 0 rfl ?_
  refine r_new (fs := [aP none, aI 0]) C fcX1 rfl df_X1 k287 k288 k11 w.1.1 w.1.2 dX10_init_92 ?_
  have w := w.2 _ rfl
  generalize h12 ++ [.inr (1, [aP none, aI 0])] = h13 at w ⊢
  refine r_dup C dX10_init_95 rfl ?_
  refine r_aload_n C dX10_init_96 rfl 1 rfl ?_
  refine r_ciV (rm' := rmX1_init) C mX1_init vX1_init (host := "") (Or.inl k289) [aP l1] [aP (some h12.length), aP (some l0)] rfl rfl (Nat.le_of_ble_eq_true rfl) (by decide) w.1 ((((((((k + 1) + 231) + 1) + 4) + 1) + 4) + 1) + 31) ((((((((n + 10) + 3422) + 9) + 28) + 9) + 28) + 2) + 228) rfl rfl dX10_init_97 rfl w.2 (fun h15 w => ?_)
  refine r_putF C D fcX10 (f := 7) (by decide) rfl rfl rfl rfl (ft_P _ _) k315 dX10_init_100 (w.mono fun h16 w => ?_)
  exact r_sub [0] rfl (bX10_init_103 C D w)
def PX10_init_0 (E : EV) (post : Option AV → AH → Prop) (k n : Nat) (h : AH) (l0 : Nat) : Prop :=
  (k + 1 ≤ 350 ∧ n + 9 ≤ 6000) ∧ (∀ h1, h1 = h ++ [.inr (6, [aP none, aP none, aP none, aI 0, aI 0, aI 0, aI 0, aI 0, aI 0])] → ((k + 1) + 3 ≤ 350 ∧ (n + 9) + 40 ≤ 6000) ∧ CS (sX6_init E) [aP (some h.length)] h1 (kV fun h3 => (((k + 1) + 3) + 1 ≤ 350 ∧ ((n + 9) + 40) + 4 ≤ 6000) ∧ (∀ h5, h5 = h3 ++ [.inr (9, [aP none, aI 0, aI 0, aI 0])] → ((((k + 1) + 3) + 1) + 1 ≤ 350 ∧ (((n + 9) + 40) + 4) + 150 ≤ 6000) ∧ CS (sX9_init E) [aP (some h3.length)] h5 (kV fun h7 => wr h7 (some l0) 10 0 (aP (some h3.length)) fun h8 => (((((k + 1) + 3) + 1) + 1) + 1 ≤ 350 ∧ ((((n + 9) + 40) + 4) + 150) + 2 ≤ 6000) ∧ (∀ h9, h9 = h8 ++ [.inr (7, [aP none, aP none])] → ((((((k + 1) + 3) + 1) + 1) + 1) + 7 ≤ 350 ∧ (((((n + 9) + 40) + 4) + 150) + 2) + 94 ≤ 6000) ∧ CS (sX7_init E) [aP (some h8.length)] h9 (kV fun h11 => wr h11 (some l0) 10 1 (aP (some h8.length)) fun h12 => (((((((k + 1) + 3) + 1) + 1) + 1) + 7) + 1 ≤ 350 ∧ ((((((n + 9) + 40) + 4) + 150) + 2) + 94) + 4 ≤ 6000) ∧ (∀ h13, h13 = h12 ++ [.inr (2, [aP none, aP none, aP none, aI 0])] → ((((((((k + 1) + 3) + 1) + 1) + 1) + 7) + 1) + 3 ≤ 350 ∧ (((((((n + 9) + 40) + 4) + 150) + 2) + 94) + 4) + 24 ≤ 6000) ∧ CS (sX2_init E) [aP (some h12.length)] h13 (kV fun h15 => wr h15 (some l0) 10 2 (aP (some h12.length)) fun h16 => (((((((((k + 1) + 3) + 1) + 1) + 1) + 7) + 1) + 3) + 1 ≤ 350 ∧ ((((((((n + 9) + 40) + 4) + 150) + 2) + 94) + 4) + 24) + 4 ≤ 6000) ∧ (∀ h17, h17 = h16 ++ [.inr (3, [aP none, aP none, aP none, aP none])] → ((((((((((k + 1) + 3) + 1) + 1) + 1) + 7) + 1) + 3) + 1) + 10 ≤ 350 ∧ (((((((((n + 9) + 40) + 4) + 150) + 2) + 94) + 4) + 24) + 4) + 134 ≤ 6000) ∧ CS (sX3_init E) [aP (some h16.length)] h17 (kV fun h19 => wr h19 (some l0) 10 3 (aP (some h16.length)) fun h20 => PX10_init_56 E post ((((((((((k + 1) + 3) + 1) + 1) + 1) + 7) + 1) + 3) + 1) + 10) ((((((((((n + 9) + 40) + 4) + 150) + 2) + 94) + 4) + 24) + 4) + 134) h20 l0 (some h.length)))))))))))
theorem bX10_init_0 {E : EV} {X : AX} {post : Option AV → AH → Prop} (C : Cb E X cX10_init RX10 2 rmX10_init) (D : Cr E X none rmX10_init "<init>" post) {k n : Nat} {h : AH} {l0 : Nat} (w : PX10_init_0 E post k n h l0) : Go E X 2 k n 0 [(0, aP (some l0))] [] h := by
  unfold PX10_init_0 at w
  refine r_aload_n C dX10_init_0 rfl 0 rfl ?_
  refine r_objInit C k18 k19 k20 (by decide) (by decide) (Nat.le_of_ble_eq_true rfl) dX10_init_1 ?_
  refine r_new (fs := [aP none, aP none, aP none, aI 0, aI 0, aI 0, aI 0, aI 0, aI 0]) C fcX6 rfl df_X6 k21 k22 k2 w.1.1 w.1.2 dX10_init_4 ?_
  have w := w.2 _ rfl
  generalize h ++ [.inr (6, [aP none, aP none, aP none, aI 0, aI 0, aI 0, aI 0, aI 0, aI 0])] = h1 at w ⊢
  refine r_dup C dX10_init_7 rfl ?_
  refine r_ciV (rm' := rmX6_init) C mX6_init vX6_init (host := "NestingPlanner") (Or.inr nk23) [] [aP (some h.length)] rfl rfl (Nat.le_of_ble_eq_true rfl) (by decide) w.1 ((k + 1) + 3) ((n + 9) + 40) rfl rfl dX10_init_8 rfl w.2 (fun h3 w => ?_)
  refine r_astore_n C dX10_init_11 rfl (by decide) rfl ?_
  refine r_aload_n C dX10_init_12 rfl 1 rfl ?_
  refine r_new (fs := [aP none, aI 0, aI 0, aI 0]) C fcX9 rfl df_X9 k67 k68 k3 w.1.1 w.1.2 dX10_init_13 ?_
  have w := w.2 _ rfl
  generalize h3 ++ [.inr (9, [aP none, aI 0, aI 0, aI 0])] = h5 at w ⊢
  refine r_dup C dX10_init_16 rfl ?_
  refine r_ciV (rm' := rmX9_init) C mX9_init vX9_init (host := "NestingPlanner") (Or.inr nk69) [] [aP (some h3.length), aP (some l0)] rfl rfl (Nat.le_of_ble_eq_true rfl) (by decide) w.1 ((((k + 1) + 3) + 1) + 1) ((((n + 9) + 40) + 4) + 150) rfl rfl dX10_init_17 rfl w.2 (fun h7 w => ?_)
  refine r_putF C D fcX10 (f := 0) (by decide) rfl rfl rfl rfl (ft_P _ _) k308 dX10_init_20 (w.mono fun h8 w => ?_)
  refine r_aload_n C dX10_init_23 rfl 1 rfl ?_
  refine r_new (fs := [aP none, aP none]) C fcX7 rfl df_X7 k92 k93 k4 w.1.1 w.1.2 dX10_init_24 ?_
  have w := w.2 _ rfl
  generalize h8 ++ [.inr (7, [aP none, aP none])] = h9 at w ⊢
  refine r_dup C dX10_init_27 rfl ?_
  refine r_ciV (rm' := rmX7_init) C mX7_init vX7_init (host := "NestingPlanner") (Or.inr nk94) [] [aP (some h8.length), aP (some l0)] rfl rfl (Nat.le_of_ble_eq_true rfl) (by decide) w.1 ((((((k + 1) + 3) + 1) + 1) + 1) + 7) ((((((n + 9) + 40) + 4) + 150) + 2) + 94) rfl rfl dX10_init_28 rfl w.2 (fun h11 w => ?_)
  refine r_putF C D fcX10 (f := 1) (by decide) rfl rfl rfl rfl (ft_P _ _) k309 dX10_init_31 (w.mono fun h12 w => ?_)
  refine r_aload_n C dX10_init_34 rfl 1 rfl ?_
  refine r_new (fs := [aP none, aP none, aP none, aI 0]) C fcX2 rfl df_X2 k140 k141 k6 w.1.1 w.1.2 dX10_init_35 ?_
  have w := w.2 _ rfl
  generalize h12 ++ [.inr (2, [aP none, aP none, aP none, aI 0])] = h13 at w ⊢
  refine r_dup C dX10_init_38 rfl ?_
  refine r_ciV (rm' := rmX2_init) C mX2_init vX2_init (host := "NestingPlanner") (Or.inr nk142) [] [aP (some h12.length), aP (some l0)] rfl rfl (Nat.le_of_ble_eq_true rfl) (by decide) w.1 ((((((((k + 1) + 3) + 1) + 1) + 1) + 7) + 1) + 3) ((((((((n + 9) + 40) + 4) + 150) + 2) + 94) + 4) + 24) rfl rfl dX10_init_39 rfl w.2 (fun h15 w => ?_)
  refine r_putF C D fcX10 (f := 2) (by decide) rfl rfl rfl rfl (ft_P _ _) k310 dX10_init_42 (w.mono fun h16 w => ?_)
  refine r_aload_n C dX10_init_45 rfl 1 rfl ?_
  refine r_new (fs := [aP none, aP none, aP none, aP none]) C fcX3 rfl df_X3 k160 k161 k7 w.1.1 w.1.2 dX10_init_46 ?_
  have w := w.2 _ rfl
  generalize h16 ++ [.inr (3, [aP none, aP none, aP none, aP none])] = h17 at w ⊢
  refine r_dup C dX10_init_49 rfl ?_
  refine r_ciV (rm' := rmX3_init) C mX3_init vX3_init (host := "NestingPlanner") (Or.inr nk162) [] [aP (some h16.length), aP (some l0)] rfl rfl (Nat.le_of_ble_eq_true rfl) (by decide) w.1 ((((((((((k + 1) + 3) + 1) + 1) + 1) + 7) + 1) + 3) + 1) + 10) ((((((((((n + 9) + 40) + 4) + 150) + 2) + 94) + 4) + 24) + 4) + 134) rfl rfl dX10_init_50 rfl w.2 (fun h19 w => ?_)
  refine r_putF C D fcX10 (f := 3) (by decide) rfl rfl rfl rfl (ft_P _ _) k311 dX10_init_53 (w.mono fun h20 w => ?_)
  exact r_sub [1, 0] rfl (bX10_init_56 C D w)
theorem eX10_init {E : EV} {post : Option AV → AH → Prop} {h : AH} {l0 : Nat} (w : PX10_init_0 E post 0 0 h l0) : sX10_init E [aP (some l0)] h post := Spec.of RX10 rfl rfl (Nat.le_of_ble_eq_true rfl) fun X C D => bX10_init_0 C D w
theorem dX10_isNear_0 : decode cX10_isNear 0 = .ok (.iload_n 0, 1) := by decide +kernel
theorem dX10_isNear_1 : decode cX10_isNear 1 = .ok (.bipush (-60), 2) := by decide +kernel
theorem dX10_isNear_3 : decode cX10_isNear 3 = .ok (.if_icmp .lt 13, 3) := by decide +kernel
theorem dX10_isNear_6 : decode cX10_isNear 6 = .ok (.iload_n 0, 1) := by decide +kernel
theorem dX10_isNear_7 : decode cX10_isNear 7 = .ok (.bipush 60, 2) := by decide +kernel
theorem dX10_isNear_9 : decode cX10_isNear 9 = .ok (.if_icmp .gt 7, 3) := by decide +kernel
theorem dX10_isNear_12 : decode cX10_isNear 12 = .ok (.iconst 1, 1) := by decide +kernel
theorem dX10_isNear_13 : decode cX10_isNear 13 = .ok (.goto 4, 3) := by decide +kernel
theorem dX10_isNear_16 : decode cX10_isNear 16 = .ok (.iconst 0, 1) := by decide +kernel
theorem dX10_isNear_17 : decode cX10_isNear 17 = .ok (.ireturn, 1) := by decide +kernel
abbrev rmX10_isNear : Room := { frames := 0, cells := 0, slots := 0, locals := 0 }
abbrev sX10_isNear (E : EV) : List AV → AH → (Option AV → AH → Prop) → Prop := Spec E yX10_isNear cX10_isNear 1 (some .boolean) rmX10_isNear
theorem mX10_isNear : Mt yX10_isNear cX10_isNear 1 (some .boolean) 1 := ⟨k837, k1, by decide +kernel⟩
theorem vX10_isNear : MtS yX10_isNear := k836
def PX10_isNear_0 (E : EV) (post : Option AV → AH → Prop) (h : AH) (l0 : Int32) : Prop :=
  (l0 < (-60 : Int32) → post (some (aI (0 : Int32))) h) ∧ (¬ l0 < (-60 : Int32) → ((60 : Int32) < l0 → post (some (aI (0 : Int32))) h) ∧ (¬ (60 : Int32) < l0 → post (some (aI (1 : Int32))) h))
theorem bX10_isNear_0 {E : EV} {X : AX} {post : Option AV → AH → Prop} (C : Cb E X cX10_isNear RX10 1 rmX10_isNear) (D : Cr E X (some .boolean) rmX10_isNear "isNear" post) {h : AH} {l0 : Int32} (w : PX10_isNear_0 E post h l0) : Go E X 1 0 0 0 [(0, aI l0)] [] h := by
  unfold PX10_isNear_0 at w
  refine r_iload_n C dX10_isNear_0 rfl 0 rfl ?_
  refine r_bipush (v := -60) C dX10_isNear_1 rfl ?_
  refine r_icmp_lt C dX10_isNear_3 (tgt := 16) rfl (fun hc => ?_) (fun hc => ?_)
  · have w := w.1 hc
    refine r_iconst (v := 0) C dX10_isNear_16 rfl ?_
    exact r_zret C D rfl (Or.inl rfl) (Nat.zero_le _) (Nat.zero_le _) dX10_isNear_17 w
  · have w := w.2 hc
    refine r_iload_n C dX10_isNear_6 rfl 0 rfl ?_
    refine r_bipush (v := 60) C dX10_isNear_7 rfl ?_
    refine r_icmp_gt C dX10_isNear_9 (tgt := 16) rfl (fun hc => ?_) (fun hc => ?_)
    · have w := w.1 hc
      refine r_iconst (v := 0) C dX10_isNear_16 rfl ?_
      exact r_zret C D rfl (Or.inl rfl) (Nat.zero_le _) (Nat.zero_le _) dX10_isNear_17 w
    · have w := w.2 hc
      refine r_iconst (v := 1) C dX10_isNear_12 rfl ?_
      refine r_goto C dX10_isNear_13 (tgt := 17) rfl ?_
      exact r_zret C D rfl (Or.inr rfl) (Nat.zero_le _) (Nat.zero_le _) dX10_isNear_17 w
theorem eX10_isNear {E : EV} {post : Option AV → AH → Prop} {h : AH} {l0 : Int32} (w : PX10_isNear_0 E post h l0) : sX10_isNear E [aI l0] h post := Spec.of RX10 rfl rfl (Nat.le_of_ble_eq_true rfl) fun X C D => bX10_isNear_0 C D w
theorem dX10_isPart_0 : decode cX10_isPart 0 = .ok (.iload_n 0, 1) := by decide +kernel
theorem dX10_isPart_1 : decode cX10_isPart 1 = .ok (.ifCond .eq 8, 3) := by decide +kernel
theorem dX10_isPart_4 : decode cX10_isPart 4 = .ok (.iload_n 0, 1) := by decide +kernel
theorem dX10_isPart_5 : decode cX10_isPart 5 = .ok (.iconst 1, 1) := by decide +kernel
theorem dX10_isPart_6 : decode cX10_isPart 6 = .ok (.if_icmp .ne 7, 3) := by decide +kernel
theorem dX10_isPart_9 : decode cX10_isPart 9 = .ok (.iconst 1, 1) := by decide +kernel
theorem dX10_isPart_10 : decode cX10_isPart 10 = .ok (.goto 4, 3) := by decide +kernel
theorem dX10_isPart_13 : decode cX10_isPart 13 = .ok (.iconst 0, 1) := by decide +kernel
theorem dX10_isPart_14 : decode cX10_isPart 14 = .ok (.ireturn, 1) := by decide +kernel
abbrev rmX10_isPart : Room := { frames := 0, cells := 0, slots := 0, locals := 0 }
abbrev sX10_isPart (E : EV) : List AV → AH → (Option AV → AH → Prop) → Prop := Spec E yX10_isPart cX10_isPart 1 (some .boolean) rmX10_isPart
theorem mX10_isPart : Mt yX10_isPart cX10_isPart 1 (some .boolean) 1 := ⟨k404, k1, by decide +kernel⟩
theorem vX10_isPart : MtS yX10_isPart := k403
def PX10_isPart_0 (E : EV) (post : Option AV → AH → Prop) (h : AH) (l0 : Int32) : Prop :=
  (l0 = 0 → post (some (aI (1 : Int32))) h) ∧ (¬ l0 = 0 → (¬ l0 = (1 : Int32) → post (some (aI (0 : Int32))) h) ∧ (l0 = (1 : Int32) → post (some (aI (1 : Int32))) h))
theorem bX10_isPart_0 {E : EV} {X : AX} {post : Option AV → AH → Prop} (C : Cb E X cX10_isPart RX10 1 rmX10_isPart) (D : Cr E X (some .boolean) rmX10_isPart "isPart" post) {h : AH} {l0 : Int32} (w : PX10_isPart_0 E post h l0) : Go E X 1 0 0 0 [(0, aI l0)] [] h := by
  unfold PX10_isPart_0 at w
  refine r_iload_n C dX10_isPart_0 rfl 0 rfl ?_
  refine r_if_eq C dX10_isPart_1 (tgt := 9) rfl (fun hc => ?_) (fun hc => ?_)
  · have w := w.1 hc
    refine r_iconst (v := 1) C dX10_isPart_9 rfl ?_
    refine r_goto C dX10_isPart_10 (tgt := 14) rfl ?_
    exact r_zret C D rfl (Or.inr rfl) (Nat.zero_le _) (Nat.zero_le _) dX10_isPart_14 w
  · have w := w.2 hc
    refine r_iload_n C dX10_isPart_4 rfl 0 rfl ?_
    refine r_iconst (v := 1) C dX10_isPart_5 rfl ?_
    refine r_icmp_ne C dX10_isPart_6 (tgt := 13) rfl (fun hc => ?_) (fun hc => ?_)
    · have w := w.1 hc
      refine r_iconst (v := 0) C dX10_isPart_13 rfl ?_
      exact r_zret C D rfl (Or.inl rfl) (Nat.zero_le _) (Nat.zero_le _) dX10_isPart_14 w
    · have w := w.2 hc
      refine r_iconst (v := 1) C dX10_isPart_9 rfl ?_
      refine r_goto C dX10_isPart_10 (tgt := 14) rfl ?_
      exact r_zret C D rfl (Or.inr rfl) (Nat.zero_le _) (Nat.zero_le _) dX10_isPart_14 w
theorem eX10_isPart {E : EV} {post : Option AV → AH → Prop} {h : AH} {l0 : Int32} (w : PX10_isPart_0 E post h l0) : sX10_isPart E [aI l0] h post := Spec.of RX10 rfl rfl (Nat.le_of_ble_eq_true rfl) fun X C D => bX10_isPart_0 C D w
theorem dX10_itemCount_0 : decode cX10_itemCount 0 = .ok (.aload_n 0, 1) := by decide +kernel
theorem dX10_itemCount_1 : decode cX10_itemCount 1 = .ok (.getfield 52, 3) := by decide +kernel
theorem dX10_itemCount_4 : decode cX10_itemCount 4 = .ok (.getfield 218, 3) := by decide +kernel
theorem dX10_itemCount_7 : decode cX10_itemCount 7 = .ok (.ireturn, 1) := by decide +kernel
abbrev rmX10_itemCount : Room := { frames := 0, cells := 0, slots := 0, locals := 0 }
abbrev sX10_itemCount (E : EV) : List AV → AH → (Option AV → AH → Prop) → Prop := Spec E yX10_itemCount cX10_itemCount 1 (some .int) rmX10_itemCount
theorem mX10_itemCount : Mt yX10_itemCount cX10_itemCount 1 (some .int) 0 := ⟨k393, k1, by decide +kernel⟩
theorem vX10_itemCount : MtV yX10_itemCount 10 := ⟨k391, k392, by decide, (RX10, TX10, 12), rfl, rfl⟩
def PX10_itemCount_0 (E : EV) (post : Option AV → AH → Prop) (h : AH) (l0 : Option Nat) : Prop :=
  rdP h l0 10 5 fun x1 => rdI h x1 8 5 fun x2 => post (some (aI x2)) h
theorem bX10_itemCount_0 {E : EV} {X : AX} {post : Option AV → AH → Prop} (C : Cb E X cX10_itemCount RX10 1 rmX10_itemCount) (D : Cr E X (some .int) rmX10_itemCount "itemCount" post) {h : AH} {l0 : Option Nat} (w : PX10_itemCount_0 E post h l0) : Go E X 1 0 0 0 [(0, aP l0)] [] h := by
  unfold PX10_itemCount_0 at w
  refine r_aload_n C dX10_itemCount_0 rfl 0 rfl ?_
  refine r_getP C fcX10 (f := 5) (by decide) rfl k313 dX10_itemCount_1 (w.mono fun x1 w => ?_)
  refine r_getI C fcX8 (f := 5) (by decide) rfl k258 dX10_itemCount_4 (w.mono fun x2 w => ?_)
  exact r_iret C D rfl (Nat.zero_le _) (Nat.zero_le _) dX10_itemCount_7 w
theorem eX10_itemCount {E : EV} {post : Option AV → AH → Prop} {h : AH} {l0 : Option Nat} (w : PX10_itemCount_0 E post h l0) : sX10_itemCount E [aP l0] h post := Spec.of RX10 rfl rfl (Nat.le_of_ble_eq_true rfl) fun X C D => bX10_itemCount_0 C D w
theorem dX10_itemGap_0 : decode cX10_itemGap 0 = .ok (.aload_n 0, 1) := by decide +kernel
theorem dX10_itemGap_1 : decode cX10_itemGap 1 = .ok (.iload_n 1, 1) := by decide +kernel
theorem dX10_itemGap_2 : decode cX10_itemGap 2 = .ok (.invokevirtual 258, 3) := by decide +kernel
theorem dX10_itemGap_5 : decode cX10_itemGap 5 = .ok (.ifCond .eq 23, 3) := by decide +kernel
theorem dX10_itemGap_8 : decode cX10_itemGap 8 = .ok (.aload_n 0, 1) := by decide +kernel
theorem dX10_itemGap_9 : decode cX10_itemGap 9 = .ok (.iload_n 2, 1) := by decide +kernel
theorem dX10_itemGap_10 : decode cX10_itemGap 10 = .ok (.invokevirtual 258, 3) := by decide +kernel
theorem dX10_itemGap_13 : decode cX10_itemGap 13 = .ok (.ifCond .eq 15, 3) := by decide +kernel
theorem dX10_itemGap_16 : decode cX10_itemGap 16 = .ok (.iload_n 1, 1) := by decide +kernel
theorem dX10_itemGap_17 : decode cX10_itemGap 17 = .ok (.iload_n 2, 1) := by decide +kernel
theorem dX10_itemGap_18 : decode cX10_itemGap 18 = .ok (.if_icmp .eq 10, 3) := by decide +kernel
theorem dX10_itemGap_21 : decode cX10_itemGap 21 = .ok (.iload_n 3, 1) := by decide +kernel
theorem dX10_itemGap_22 : decode cX10_itemGap 22 = .ok (.invokestatic 157, 3) := by decide +kernel
theorem dX10_itemGap_25 : decode cX10_itemGap 25 = .ok (.ifCond .ne 6, 3) := by decide +kernel
theorem dX10_itemGap_28 : decode cX10_itemGap 28 = .ok (.ldc 88, 2) := by decide +kernel
theorem dX10_itemGap_30 : decode cX10_itemGap 30 = .ok (.ireturn, 1) := by decide +kernel
theorem dX10_itemGap_31 : decode cX10_itemGap 31 = .ok (.aload_n 0, 1) := by decide +kernel
theorem dX10_itemGap_32 : decode cX10_itemGap 32 = .ok (.iload_n 1, 1) := by decide +kernel
theorem dX10_itemGap_33 : decode cX10_itemGap 33 = .ok (.iload_n 2, 1) := by decide +kernel
theorem dX10_itemGap_34 : decode cX10_itemGap 34 = .ok (.invokevirtual 279, 3) := by decide +kernel
theorem dX10_itemGap_37 : decode cX10_itemGap 37 = .ok (.aload_n 0, 1) := by decide +kernel
theorem dX10_itemGap_38 : decode cX10_itemGap 38 = .ok (.getfield 36, 3) := by decide +kernel
theorem dX10_itemGap_41 : decode cX10_itemGap 41 = .ok (.getfield 199, 3) := by decide +kernel
theorem dX10_itemGap_44 : decode cX10_itemGap 44 = .ok (.iload_n 3, 1) := by decide +kernel
theorem dX10_itemGap_45 : decode cX10_itemGap 45 = .ok (.invokevirtual 202, 3) := by decide +kernel
theorem dX10_itemGap_48 : decode cX10_itemGap 48 = .ok (.ireturn, 1) := by decide +kernel
abbrev rmX10_itemGap : Room := { frames := 6, cells := 0, slots := 0, locals := 240 }
abbrev sX10_itemGap (E : EV) : List AV → AH → (Option AV → AH → Prop) → Prop := Spec E yX10_itemGap cX10_itemGap 4 (some .int) rmX10_itemGap
theorem mX10_itemGap : Mt yX10_itemGap cX10_itemGap 4 (some .int) 3 := ⟨k397, k1, by decide +kernel⟩
theorem vX10_itemGap : MtV yX10_itemGap 10 := ⟨k395, k396, by decide, (RX10, TX10, 12), rfl, rfl⟩
def PX10_itemGap_0 (E : EV) (post : Option AV → AH → Prop) (h : AH) (l0 : Option Nat) (l1 : Int32) (l2 : Int32) (l3 : Int32) : Prop :=
  CV (sX10_isItem E) l0 10 [aI l1] h (kI fun x1 h2 => (x1 = 0 → post (some (aI (-1000001 : Int32))) h2) ∧ (¬ x1 = 0 → CV (sX10_isItem E) l0 10 [aI l2] h2 (kI fun x3 h4 => (x3 = 0 → post (some (aI (-1000001 : Int32))) h4) ∧ (¬ x3 = 0 → (l1 = l2 → post (some (aI (-1000001 : Int32))) h4) ∧ (¬ l1 = l2 → CS (sX10_isPart E) [aI l3] h4 (kI fun x5 h6 => (¬ x5 = 0 → CV (sX10_measureItemGap E) l0 10 [aI l1, aI l2] h6 (kV fun h8 => rdP h8 l0 10 3 fun x9 => rdP h8 x9 3 3 fun x10 => CV (sX0_part E) x10 0 [aI l3] h8 (kI fun x11 h12 => post (some (aI x11)) h12))) ∧ (x5 = 0 → post (some (aI (-1000001 : Int32))) h6)))))))
theorem bX10_itemGap_0 {E : EV} {X : AX} {post : Option AV → AH → Prop} (C : Cb E X cX10_itemGap RX10 4 rmX10_itemGap) (D : Cr E X (some .int) rmX10_itemGap "itemGap" post) {h : AH} {l0 : Option Nat} {l1 : Int32} {l2 : Int32} {l3 : Int32} (w : PX10_itemGap_0 E post h l0 l1 l2 l3) : Go E X 4 0 0 0 [(0, aP l0), (1, aI l1), (2, aI l2), (3, aI l3)] [] h := by
  unfold PX10_itemGap_0 at w
  refine r_aload_n C dX10_itemGap_0 rfl 0 rfl ?_
  refine r_iload_n C dX10_itemGap_1 rfl 1 rfl ?_
  refine r_cvI (rm' := rmX10_isItem) C mX10_isItem vX10_isItem k398 [aI l1] [] rfl rfl (Nat.le_of_ble_eq_true rfl) (by decide) ⟨Nat.zero_le _, Nat.zero_le _⟩ 0 0 rfl rfl dX10_itemGap_2 w (fun x1 h2 w => ?_)
  refine r_if_eq C dX10_itemGap_5 (tgt := 28) rfl (fun hc => ?_) (fun hc => ?_)
  · have w := w.1 hc
    refine r_ldc (v := -1000001) C dX10_itemGap_28 k349 ?_
    exact r_iret C D rfl (Nat.zero_le _) (Nat.zero_le _) dX10_itemGap_30 w
  · have w := w.2 hc
    refine r_aload_n C dX10_itemGap_8 rfl 0 rfl ?_
    refine r_iload_n C dX10_itemGap_9 rfl 2 rfl ?_
    refine r_cvI (rm' := rmX10_isItem) C mX10_isItem vX10_isItem k398 [aI l2] [] rfl rfl (Nat.le_of_ble_eq_true rfl) (by decide) ⟨Nat.zero_le _, Nat.zero_le _⟩ 0 0 rfl rfl dX10_itemGap_10 w (fun x3 h4 w => ?_)
    refine r_if_eq C dX10_itemGap_13 (tgt := 28) rfl (fun hc => ?_) (fun hc => ?_)
    · have w := w.1 hc
      refine r_ldc (v := -1000001) C dX10_itemGap_28 k349 ?_
      exact r_iret C D rfl (Nat.zero_le _) (Nat.zero_le _) dX10_itemGap_30 w
    · have w := w.2 hc
      refine r_iload_n C dX10_itemGap_16 rfl 1 rfl ?_
      refine r_iload_n C dX10_itemGap_17 rfl 2 rfl ?_
      refine r_icmp_eq C dX10_itemGap_18 (tgt := 28) rfl (fun hc => ?_) (fun hc => ?_)
      · have w := w.1 hc
        refine r_ldc (v := -1000001) C dX10_itemGap_28 k349 ?_
        exact r_iret C D rfl (Nat.zero_le _) (Nat.zero_le _) dX10_itemGap_30 w
      · have w := w.2 hc
        refine r_iload_n C dX10_itemGap_21 rfl 3 rfl ?_
        refine r_csI (rm' := rmX10_isPart) C mX10_isPart vX10_isPart k402 [aI l3] [] rfl rfl (Nat.le_of_ble_eq_true rfl) (by decide) ⟨Nat.zero_le _, Nat.zero_le _⟩ 0 0 rfl rfl dX10_itemGap_22 w (fun x5 h6 w => ?_)
        refine r_if_ne C dX10_itemGap_25 (tgt := 31) rfl (fun hc => ?_) (fun hc => ?_)
        · have w := w.1 hc
          refine r_aload_n C dX10_itemGap_31 rfl 0 rfl ?_
          refine r_iload_n C dX10_itemGap_32 rfl 1 rfl ?_
          refine r_iload_n C dX10_itemGap_33 rfl 2 rfl ?_
          refine r_cvV (rm' := rmX10_measureItemGap) C mX10_measureItemGap vX10_measureItemGap k405 [aI l1, aI l2] [] rfl rfl (Nat.le_of_ble_eq_true rfl) (by decide) ⟨Nat.zero_le _, Nat.zero_le _⟩ 0 0 rfl rfl dX10_itemGap_34 w (fun h8 w => ?_)
          refine r_aload_n C dX10_itemGap_37 rfl 0 rfl ?_
          refine r_getP C fcX10 (f := 3) (by decide) rfl k311 dX10_itemGap_38 (w.mono fun x9 w => ?_)
          refine r_getP C fcX3 (f := 3) (by decide) rfl k188 dX10_itemGap_41 (w.mono fun x10 w => ?_)
          refine r_iload_n C dX10_itemGap_44 rfl 3 rfl ?_
          refine r_cvI (rm' := rmX0_part) C mX0_part vX0_part k491 [aI l3] [] rfl rfl (Nat.le_of_ble_eq_true rfl) (by decide) ⟨Nat.zero_le _, Nat.zero_le _⟩ 0 0 rfl rfl dX10_itemGap_45 w (fun x11 h12 w => ?_)
          exact r_iret C D rfl (Nat.zero_le _) (Nat.zero_le _) dX10_itemGap_48 w
        · have w := w.2 hc
          refine r_ldc (v := -1000001) C dX10_itemGap_28 k349 ?_
          exact r_iret C D rfl (Nat.zero_le _) (Nat.zero_le _) dX10_itemGap_30 w
theorem eX10_itemGap {E : EV} {post : Option AV → AH → Prop} {h : AH} {l0 : Option Nat} {l1 : Int32} {l2 : Int32} {l3 : Int32} (w : PX10_itemGap_0 E post h l0 l1 l2 l3) : sX10_itemGap E [aP l0, aI l1, aI l2, aI l3] h post := Spec.of RX10 rfl rfl (Nat.le_of_ble_eq_true rfl) fun X C D => bX10_itemGap_0 C D w
theorem dX10_itemPlace_0 : decode cX10_itemPlace 0 = .ok (.aload_n 0, 1) := by decide +kernel
theorem dX10_itemPlace_1 : decode cX10_itemPlace 1 = .ok (.iload_n 1, 1) := by decide +kernel
theorem dX10_itemPlace_2 : decode cX10_itemPlace 2 = .ok (.invokevirtual 258, 3) := by decide +kernel
theorem dX10_itemPlace_5 : decode cX10_itemPlace 5 = .ok (.ifCond .eq 10, 3) := by decide +kernel
theorem dX10_itemPlace_8 : decode cX10_itemPlace 8 = .ok (.iload_n 2, 1) := by decide +kernel
theorem dX10_itemPlace_9 : decode cX10_itemPlace 9 = .ok (.invokestatic 157, 3) := by decide +kernel
theorem dX10_itemPlace_12 : decode cX10_itemPlace 12 = .ok (.ifCond .ne 6, 3) := by decide +kernel
theorem dX10_itemPlace_15 : decode cX10_itemPlace 15 = .ok (.ldc 88, 2) := by decide +kernel
theorem dX10_itemPlace_17 : decode cX10_itemPlace 17 = .ok (.ireturn, 1) := by decide +kernel
theorem dX10_itemPlace_18 : decode cX10_itemPlace 18 = .ok (.iload_n 2, 1) := by decide +kernel
theorem dX10_itemPlace_19 : decode cX10_itemPlace 19 = .ok (.ifCond .ne 14, 3) := by decide +kernel
theorem dX10_itemPlace_22 : decode cX10_itemPlace 22 = .ok (.aload_n 0, 1) := by decide +kernel
theorem dX10_itemPlace_23 : decode cX10_itemPlace 23 = .ok (.getfield 52, 3) := by decide +kernel
theorem dX10_itemPlace_26 : decode cX10_itemPlace 26 = .ok (.iload_n 1, 1) := by decide +kernel
theorem dX10_itemPlace_27 : decode cX10_itemPlace 27 = .ok (.invokevirtual 274, 3) := by decide +kernel
theorem dX10_itemPlace_30 : decode cX10_itemPlace 30 = .ok (.goto 11, 3) := by decide +kernel
theorem dX10_itemPlace_33 : decode cX10_itemPlace 33 = .ok (.aload_n 0, 1) := by decide +kernel
theorem dX10_itemPlace_34 : decode cX10_itemPlace 34 = .ok (.getfield 52, 3) := by decide +kernel
theorem dX10_itemPlace_37 : decode cX10_itemPlace 37 = .ok (.iload_n 1, 1) := by decide +kernel
theorem dX10_itemPlace_38 : decode cX10_itemPlace 38 = .ok (.invokevirtual 275, 3) := by decide +kernel
theorem dX10_itemPlace_41 : decode cX10_itemPlace 41 = .ok (.ireturn, 1) := by decide +kernel
abbrev rmX10_itemPlace : Room := { frames := 1, cells := 0, slots := 0, locals := 40 }
abbrev sX10_itemPlace (E : EV) : List AV → AH → (Option AV → AH → Prop) → Prop := Spec E yX10_itemPlace cX10_itemPlace 3 (some .int) rmX10_itemPlace
theorem mX10_itemPlace : Mt yX10_itemPlace cX10_itemPlace 3 (some .int) 2 := ⟨k618, k1, by decide +kernel⟩
theorem vX10_itemPlace : MtV yX10_itemPlace 10 := ⟨k616, k617, by decide, (RX10, TX10, 12), rfl, rfl⟩
def PX10_itemPlace_0 (E : EV) (post : Option AV → AH → Prop) (h : AH) (l0 : Option Nat) (l1 : Int32) (l2 : Int32) : Prop :=
  CV (sX10_isItem E) l0 10 [aI l1] h (kI fun x1 h2 => (x1 = 0 → post (some (aI (-1000001 : Int32))) h2) ∧ (¬ x1 = 0 → CS (sX10_isPart E) [aI l2] h2 (kI fun x3 h4 => (¬ x3 = 0 → (¬ l2 = 0 → rdP h4 l0 10 5 fun x5 => CV (sX8_y E) x5 8 [aI l1] h4 (kI fun x6 h7 => post (some (aI x6)) h7)) ∧ (l2 = 0 → rdP h4 l0 10 5 fun x5 => CV (sX8_x E) x5 8 [aI l1] h4 (kI fun x6 h7 => post (some (aI x6)) h7))) ∧ (x3 = 0 → post (some (aI (-1000001 : Int32))) h4))))
theorem bX10_itemPlace_0 {E : EV} {X : AX} {post : Option AV → AH → Prop} (C : Cb E X cX10_itemPlace RX10 3 rmX10_itemPlace) (D : Cr E X (some .int) rmX10_itemPlace "itemPlace" post) {h : AH} {l0 : Option Nat} {l1 : Int32} {l2 : Int32} (w : PX10_itemPlace_0 E post h l0 l1 l2) : Go E X 3 0 0 0 [(0, aP l0), (1, aI l1), (2, aI l2)] [] h := by
  unfold PX10_itemPlace_0 at w
  refine r_aload_n C dX10_itemPlace_0 rfl 0 rfl ?_
  refine r_iload_n C dX10_itemPlace_1 rfl 1 rfl ?_
  refine r_cvI (rm' := rmX10_isItem) C mX10_isItem vX10_isItem k398 [aI l1] [] rfl rfl (Nat.le_of_ble_eq_true rfl) (by decide) ⟨Nat.zero_le _, Nat.zero_le _⟩ 0 0 rfl rfl dX10_itemPlace_2 w (fun x1 h2 w => ?_)
  refine r_if_eq C dX10_itemPlace_5 (tgt := 15) rfl (fun hc => ?_) (fun hc => ?_)
  · have w := w.1 hc
    refine r_ldc (v := -1000001) C dX10_itemPlace_15 k349 ?_
    exact r_iret C D rfl (Nat.zero_le _) (Nat.zero_le _) dX10_itemPlace_17 w
  · have w := w.2 hc
    refine r_iload_n C dX10_itemPlace_8 rfl 2 rfl ?_
    refine r_csI (rm' := rmX10_isPart) C mX10_isPart vX10_isPart k402 [aI l2] [] rfl rfl (Nat.le_of_ble_eq_true rfl) (by decide) ⟨Nat.zero_le _, Nat.zero_le _⟩ 0 0 rfl rfl dX10_itemPlace_9 w (fun x3 h4 w => ?_)
    refine r_if_ne C dX10_itemPlace_12 (tgt := 18) rfl (fun hc => ?_) (fun hc => ?_)
    · have w := w.1 hc
      refine r_iload_n C dX10_itemPlace_18 rfl 2 rfl ?_
      refine r_if_ne C dX10_itemPlace_19 (tgt := 33) rfl (fun hc => ?_) (fun hc => ?_)
      · have w := w.1 hc
        refine r_aload_n C dX10_itemPlace_33 rfl 0 rfl ?_
        refine r_getP C fcX10 (f := 5) (by decide) rfl k313 dX10_itemPlace_34 (w.mono fun x5 w => ?_)
        refine r_iload_n C dX10_itemPlace_37 rfl 1 rfl ?_
        refine r_cvI (rm' := rmX8_y) C mX8_y vX8_y k410 [aI l1] [] rfl rfl (Nat.le_of_ble_eq_true rfl) (by decide) ⟨Nat.zero_le _, Nat.zero_le _⟩ 0 0 rfl rfl dX10_itemPlace_38 w (fun x6 h7 w => ?_)
        exact r_iret C D rfl (Nat.zero_le _) (Nat.zero_le _) dX10_itemPlace_41 w
      · have w := w.2 hc
        refine r_aload_n C dX10_itemPlace_22 rfl 0 rfl ?_
        refine r_getP C fcX10 (f := 5) (by decide) rfl k313 dX10_itemPlace_23 (w.mono fun x5 w => ?_)
        refine r_iload_n C dX10_itemPlace_26 rfl 1 rfl ?_
        refine r_cvI (rm' := rmX8_x) C mX8_x vX8_x k409 [aI l1] [] rfl rfl (Nat.le_of_ble_eq_true rfl) (by decide) ⟨Nat.zero_le _, Nat.zero_le _⟩ 0 0 rfl rfl dX10_itemPlace_27 w (fun x6 h7 w => ?_)
        refine r_goto C dX10_itemPlace_30 (tgt := 41) rfl ?_
        exact r_iret C D rfl (Nat.zero_le _) (Nat.zero_le _) dX10_itemPlace_41 w
    · have w := w.2 hc
      refine r_ldc (v := -1000001) C dX10_itemPlace_15 k349 ?_
      exact r_iret C D rfl (Nat.zero_le _) (Nat.zero_le _) dX10_itemPlace_17 w
theorem eX10_itemPlace {E : EV} {post : Option AV → AH → Prop} {h : AH} {l0 : Option Nat} {l1 : Int32} {l2 : Int32} (w : PX10_itemPlace_0 E post h l0 l1 l2) : sX10_itemPlace E [aP l0, aI l1, aI l2] h post := Spec.of RX10 rfl rfl (Nat.le_of_ble_eq_true rfl) fun X C D => bX10_itemPlace_0 C D w
theorem dX10_loadLayout_0 : decode cX10_loadLayout 0 = .ok (.aload_n 0, 1) := by decide +kernel
theorem dX10_loadLayout_1 : decode cX10_loadLayout 1 = .ok (.getfield 29, 3) := by decide +kernel
theorem dX10_loadLayout_4 : decode cX10_loadLayout 4 = .ok (.aload_n 0, 1) := by decide +kernel
theorem dX10_loadLayout_5 : decode cX10_loadLayout 5 = .ok (.getfield 13, 3) := by decide +kernel
theorem dX10_loadLayout_8 : decode cX10_loadLayout 8 = .ok (.invokevirtual 248, 3) := by decide +kernel
theorem dX10_loadLayout_11 : decode cX10_loadLayout 11 = .ok (.ifCond .ne 14, 3) := by decide +kernel
theorem dX10_loadLayout_14 : decode cX10_loadLayout 14 = .ok (.bipush (-10), 2) := by decide +kernel
theorem dX10_loadLayout_16 : decode cX10_loadLayout 16 = .ok (.aload_n 0, 1) := by decide +kernel
theorem dX10_loadLayout_17 : decode cX10_loadLayout 17 = .ok (.getfield 13, 3) := by decide +kernel
theorem dX10_loadLayout_20 : decode cX10_loadLayout 20 = .ok (.getfield 106, 3) := by decide +kernel
theorem dX10_loadLayout_23 : decode cX10_loadLayout 23 = .ok (.isub, 1) := by decide +kernel
theorem dX10_loadLayout_24 : decode cX10_loadLayout 24 = .ok (.ireturn, 1) := by decide +kernel
theorem dX10_loadLayout_25 : decode cX10_loadLayout 25 = .ok (.aload_n 0, 1) := by decide +kernel
theorem dX10_loadLayout_26 : decode cX10_loadLayout 26 = .ok (.getfield 29, 3) := by decide +kernel
theorem dX10_loadLayout_29 : decode cX10_loadLayout 29 = .ok (.getfield 249, 3) := by decide +kernel
theorem dX10_loadLayout_32 : decode cX10_loadLayout 32 = .ok (.bipush 8, 2) := by decide +kernel
theorem dX10_loadLayout_34 : decode cX10_loadLayout 34 = .ok (.if_icmp .le 6, 3) := by decide +kernel
theorem dX10_loadLayout_37 : decode cX10_loadLayout 37 = .ok (.ldc 124, 2) := by decide +kernel
theorem dX10_loadLayout_39 : decode cX10_loadLayout 39 = .ok (.ireturn, 1) := by decide +kernel
theorem dX10_loadLayout_40 : decode cX10_loadLayout 40 = .ok (.aload_n 0, 1) := by decide +kernel
theorem dX10_loadLayout_41 : decode cX10_loadLayout 41 = .ok (.getfield 56, 3) := by decide +kernel
theorem dX10_loadLayout_44 : decode cX10_loadLayout 44 = .ok (.aload_n 0, 1) := by decide +kernel
theorem dX10_loadLayout_45 : decode cX10_loadLayout 45 = .ok (.getfield 52, 3) := by decide +kernel
theorem dX10_loadLayout_48 : decode cX10_loadLayout 48 = .ok (.invokevirtual 209, 3) := by decide +kernel
theorem dX10_loadLayout_51 : decode cX10_loadLayout 51 = .ok (.aload_n 0, 1) := by decide +kernel
theorem dX10_loadLayout_52 : decode cX10_loadLayout 52 = .ok (.getfield 52, 3) := by decide +kernel
theorem dX10_loadLayout_55 : decode cX10_loadLayout 55 = .ok (.iconst 0, 1) := by decide +kernel
theorem dX10_loadLayout_56 : decode cX10_loadLayout 56 = .ok (.putfield 218, 3) := by decide +kernel
theorem dX10_loadLayout_59 : decode cX10_loadLayout 59 = .ok (.iconst 0, 1) := by decide +kernel
theorem dX10_loadLayout_60 : decode cX10_loadLayout 60 = .ok (.istore_n 1, 1) := by decide +kernel
theorem dX10_loadLayout_61 : decode cX10_loadLayout 61 = .ok (.iload_n 1, 1) := by decide +kernel
theorem dX10_loadLayout_62 : decode cX10_loadLayout 62 = .ok (.aload_n 0, 1) := by decide +kernel
theorem dX10_loadLayout_63 : decode cX10_loadLayout 63 = .ok (.getfield 29, 3) := by decide +kernel
theorem dX10_loadLayout_66 : decode cX10_loadLayout 66 = .ok (.getfield 249, 3) := by decide +kernel
theorem dX10_loadLayout_69 : decode cX10_loadLayout 69 = .ok (.if_icmp .ge 87, 3) := by decide +kernel
theorem dX10_loadLayout_72 : decode cX10_loadLayout 72 = .ok (.aload_n 0, 1) := by decide +kernel
theorem dX10_loadLayout_73 : decode cX10_loadLayout 73 = .ok (.getfield 52, 3) := by decide +kernel
theorem dX10_loadLayout_76 : decode cX10_loadLayout 76 = .ok (.aload_n 0, 1) := by decide +kernel
theorem dX10_loadLayout_77 : decode cX10_loadLayout 77 = .ok (.getfield 29, 3) := by decide +kernel
theorem dX10_loadLayout_80 : decode cX10_loadLayout 80 = .ok (.iload_n 1, 1) := by decide +kernel
theorem dX10_loadLayout_81 : decode cX10_loadLayout 81 = .ok (.invokevirtual 250, 3) := by decide +kernel
theorem dX10_loadLayout_84 : decode cX10_loadLayout 84 = .ok (.invokevirtual 116, 3) := by decide +kernel
theorem dX10_loadLayout_87 : decode cX10_loadLayout 87 = .ok (.astore_n 2, 1) := by decide +kernel
theorem dX10_loadLayout_88 : decode cX10_loadLayout 88 = .ok (.aload_n 0, 1) := by decide +kernel
theorem dX10_loadLayout_89 : decode cX10_loadLayout 89 = .ok (.aload_n 2, 1) := by decide +kernel
theorem dX10_loadLayout_90 : decode cX10_loadLayout 90 = .ok (.aload_n 0, 1) := by decide +kernel
theorem dX10_loadLayout_91 : decode cX10_loadLayout 91 = .ok (.getfield 29, 3) := by decide +kernel
theorem dX10_loadLayout_94 : decode cX10_loadLayout 94 = .ok (.iload_n 1, 1) := by decide +kernel
theorem dX10_loadLayout_95 : decode cX10_loadLayout 95 = .ok (.invokevirtual 252, 3) := by decide +kernel
theorem dX10_loadLayout_98 : decode cX10_loadLayout 98 = .ok (.aload_n 0, 1) := by decide +kernel
theorem dX10_loadLayout_99 : decode cX10_loadLayout 99 = .ok (.getfield 29, 3) := by decide +kernel
theorem dX10_loadLayout_102 : decode cX10_loadLayout 102 = .ok (.iload_n 1, 1) := by decide +kernel
theorem dX10_loadLayout_103 : decode cX10_loadLayout 103 = .ok (.invokevirtual 253, 3) := by decide +kernel
theorem dX10_loadLayout_106 : decode cX10_loadLayout 106 = .ok (.invokevirtual 227, 3) := by decide +kernel
theorem dX10_loadLayout_109 : decode cX10_loadLayout 109 = .ok (.ifCond .ne 17, 3) := by decide +kernel
theorem dX10_loadLayout_112 : decode cX10_loadLayout 112 = .ok (.aload_n 0, 1) := by decide +kernel
theorem dX10_loadLayout_113 : decode cX10_loadLayout 113 = .ok (.getfield 52, 3) := by decide +kernel
theorem dX10_loadLayout_116 : decode cX10_loadLayout 116 = .ok (.aload_n 0, 1) := by decide +kernel
theorem dX10_loadLayout_117 : decode cX10_loadLayout 117 = .ok (.getfield 56, 3) := by decide +kernel
theorem dX10_loadLayout_120 : decode cX10_loadLayout 120 = .ok (.invokevirtual 209, 3) := by decide +kernel
theorem dX10_loadLayout_123 : decode cX10_loadLayout 123 = .ok (.ldc 124, 2) := by decide +kernel
theorem dX10_loadLayout_125 : decode cX10_loadLayout 125 = .ok (.ireturn, 1) := by decide +kernel
theorem dX10_loadLayout_126 : decode cX10_loadLayout 126 = .ok (.aload_n 0, 1) := by decide +kernel
theorem dX10_loadLayout_127 : decode cX10_loadLayout 127 = .ok (.getfield 52, 3) := by decide +kernel
theorem dX10_loadLayout_130 : decode cX10_loadLayout 130 = .ok (.aload_n 2, 1) := by decide +kernel
theorem dX10_loadLayout_131 : decode cX10_loadLayout 131 = .ok (.aload_n 0, 1) := by decide +kernel
theorem dX10_loadLayout_132 : decode cX10_loadLayout 132 = .ok (.getfield 29, 3) := by decide +kernel
theorem dX10_loadLayout_135 : decode cX10_loadLayout 135 = .ok (.iload_n 1, 1) := by decide +kernel
theorem dX10_loadLayout_136 : decode cX10_loadLayout 136 = .ok (.invokevirtual 252, 3) := by decide +kernel
theorem dX10_loadLayout_139 : decode cX10_loadLayout 139 = .ok (.aload_n 0, 1) := by decide +kernel
theorem dX10_loadLayout_140 : decode cX10_loadLayout 140 = .ok (.getfield 29, 3) := by decide +kernel
theorem dX10_loadLayout_143 : decode cX10_loadLayout 143 = .ok (.iload_n 1, 1) := by decide +kernel
theorem dX10_loadLayout_144 : decode cX10_loadLayout 144 = .ok (.invokevirtual 253, 3) := by decide +kernel
theorem dX10_loadLayout_147 : decode cX10_loadLayout 147 = .ok (.invokevirtual 254, 3) := by decide +kernel
theorem dX10_loadLayout_150 : decode cX10_loadLayout 150 = .ok (.iinc 1 1, 3) := by decide +kernel
theorem dX10_loadLayout_153 : decode cX10_loadLayout 153 = .ok (.goto (-92), 3) := by decide +kernel
theorem dX10_loadLayout_156 : decode cX10_loadLayout 156 = .ok (.aload_n 0, 1) := by decide +kernel
theorem dX10_loadLayout_157 : decode cX10_loadLayout 157 = .ok (.getfield 62, 3) := by decide +kernel
theorem dX10_loadLayout_160 : decode cX10_loadLayout 160 = .ok (.aload_n 0, 1) := by decide +kernel
theorem dX10_loadLayout_161 : decode cX10_loadLayout 161 = .ok (.getfield 56, 3) := by decide +kernel
theorem dX10_loadLayout_164 : decode cX10_loadLayout 164 = .ok (.invokevirtual 125, 3) := by decide +kernel
theorem dX10_loadLayout_167 : decode cX10_loadLayout 167 = .ok (.aload_n 0, 1) := by decide +kernel
theorem dX10_loadLayout_168 : decode cX10_loadLayout 168 = .ok (.getfield 13, 3) := by decide +kernel
theorem dX10_loadLayout_171 : decode cX10_loadLayout 171 = .ok (.iconst 0, 1) := by decide +kernel
theorem dX10_loadLayout_172 : decode cX10_loadLayout 172 = .ok (.putfield 89, 3) := by decide +kernel
theorem dX10_loadLayout_175 : decode cX10_loadLayout 175 = .ok (.aload_n 0, 1) := by decide +kernel
theorem dX10_loadLayout_176 : decode cX10_loadLayout 176 = .ok (.getfield 52, 3) := by decide +kernel
theorem dX10_loadLayout_179 : decode cX10_loadLayout 179 = .ok (.getfield 218, 3) := by decide +kernel
theorem dX10_loadLayout_182 : decode cX10_loadLayout 182 = .ok (.ireturn, 1) := by decide +kernel
abbrev rmX10_loadLayout : Room := { frames := 6, cells := 0, slots := 0, locals := 240 }
abbrev sX10_loadLayout (E : EV) : List AV → AH → (Option AV → AH → Prop) → Prop := Spec E yX10_loadLayout cX10_loadLayout 3 (some .int) rmX10_loadLayout
theorem mX10_loadLayout : Mt yX10_loadLayout cX10_loadLayout 3 (some .int) 0 := ⟨k857, k1, by decide +kernel⟩
theorem vX10_loadLayout : MtV yX10_loadLayout 10 := ⟨k855, k856, by decide, (RX10, TX10, 12), rfl, rfl⟩
def PX10_loadLayout_61 (E : EV) (post : Option AV → AH → Prop) (J61 : AH → Option Nat → Int32 → Prop) (h : AH) (l0 : Option Nat) (l1 : Int32) : Prop :=
  rdP h l0 10 2 fun x1 => rdI h x1 2 3 fun x2 => (x2 ≤ l1 → rdP h l0 10 7 fun x3 => rdP h l0 10 6 fun x4 => CV (sX1_save E) x3 1 [aP x4] h (kV fun h6 => rdP h6 l0 10 0 fun x7 => wr h6 x7 9 1 (aI (0 : Int32)) fun h8 => rdP h8 l0 10 5 fun x9 => rdI h8 x9 8 5 fun x10 => post (some (aI x10)) h8)) ∧ (¬ x2 ≤ l1 → rdP h l0 10 5 fun x3 => rdP h l0 10 2 fun x4 => CV (sX2_slot E) x4 2 [aI l1] h (kI fun x5 h6 => CV (sX8_slot E) x3 8 [aI x5] h6 (kP fun x7 h8 => rdP h8 l0 10 2 fun x10 => CV (sX2_x E) x10 2 [aI l1] h8 (kI fun x11 h12 => rdP h12 l0 10 2 fun x13 => CV (sX2_y E) x13 2 [aI l1] h12 (kI fun x14 h15 => CV (sX10_fits E) l0 10 [aP x7, aI x11, aI x14] h15 (kI fun x16 h17 => (¬ x16 = 0 → rdP h17 l0 10 5 fun x18 => rdP h17 l0 10 2 fun x19 => CV (sX2_x E) x19 2 [aI l1] h17 (kI fun x20 h21 => rdP h21 l0 10 2 fun x22 => CV (sX2_y E) x22 2 [aI l1] h21 (kI fun x23 h24 => CV (sX8_add E) x18 8 [aP x7, aI x20, aI x23] h24 (kV fun h26 => J61 h26 l0 (l1 + (1 : Int32)))))) ∧ (x16 = 0 → rdP h17 l0 10 5 fun x18 => rdP h17 l0 10 6 fun x19 => CV (sX8_copy E) x18 8 [aP x19] h17 (kV fun h21 => post (some (aI (-1000002 : Int32))) h21))))))))
theorem bX10_loadLayout_61 {E : EV} {X : AX} {post : Option AV → AH → Prop} (C : Cb E X cX10_loadLayout RX10 3 rmX10_loadLayout) (D : Cr E X (some .int) rmX10_loadLayout "loadLayout" post) {J61 : AH → Option Nat → Int32 → Prop} (g61 : ∀ (h : AH) (l0 : Option Nat) (l1 : Int32), J61 h l0 l1 → Go E X 3 0 0 61 [(0, aP l0), (1, aI l1)] [] h) {h : AH} {l0 : Option Nat} {l1 : Int32} (w : PX10_loadLayout_61 E post J61 h l0 l1) : Go E X 3 0 0 61 [(0, aP l0), (1, aI l1)] [] h := by
  unfold PX10_loadLayout_61 at w
  refine r_iload_n C dX10_loadLayout_61 rfl 1 rfl ?_
  refine r_aload_n C dX10_loadLayout_62 rfl 0 rfl ?_
  refine r_getP C fcX10 (f := 2) (by decide) rfl k310 dX10_loadLayout_63 (w.mono fun x1 w => ?_)
  refine r_getI C fcX2 (f := 3) (by decide) rfl k150 dX10_loadLayout_66 (w.mono fun x2 w => ?_)
  refine r_icmp_ge C dX10_loadLayout_69 (tgt := 156) rfl (fun hc => ?_) (fun hc => ?_)
  · have w := w.1 hc
    refine r_aload_n C dX10_loadLayout_156 rfl 0 rfl ?_
    refine r_getP C fcX10 (f := 7) (by decide) rfl k315 dX10_loadLayout_157 (w.mono fun x3 w => ?_)
    refine r_aload_n C dX10_loadLayout_160 rfl 0 rfl ?_
    refine r_getP C fcX10 (f := 6) (by decide) rfl k314 dX10_loadLayout_161 (w.mono fun x4 w => ?_)
    refine r_cvV (rm' := rmX1_save) C mX1_save vX1_save k350 [aP x4] [] rfl rfl (Nat.le_of_ble_eq_true rfl) (by decide) ⟨Nat.zero_le _, Nat.zero_le _⟩ 0 0 rfl rfl dX10_loadLayout_164 w (fun h6 w => ?_)
    refine r_aload_n C dX10_loadLayout_167 rfl 0 rfl ?_
    refine r_getP C fcX10 (f := 0) (by decide) rfl k308 dX10_loadLayout_168 (w.mono fun x7 w => ?_)
    refine r_iconst (v := 0) C dX10_loadLayout_171 rfl ?_
    refine r_put C fcX9 (f := 1) (by decide) rfl rfl rfl rfl k75 dX10_loadLayout_172 (w.mono fun h8 w => ?_)
    refine r_aload_n C dX10_loadLayout_175 rfl 0 rfl ?_
    refine r_getP C fcX10 (f := 5) (by decide) rfl k313 dX10_loadLayout_176 (w.mono fun x9 w => ?_)
    refine r_getI C fcX8 (f := 5) (by decide) rfl k258 dX10_loadLayout_179 (w.mono fun x10 w => ?_)
    exact r_iret C D rfl (Nat.zero_le _) (Nat.zero_le _) dX10_loadLayout_182 w
  · have w := w.2 hc
    refine r_aload_n C dX10_loadLayout_72 rfl 0 rfl ?_
    refine r_getP C fcX10 (f := 5) (by decide) rfl k313 dX10_loadLayout_73 (w.mono fun x3 w => ?_)
    refine r_aload_n C dX10_loadLayout_76 rfl 0 rfl ?_
    refine r_getP C fcX10 (f := 2) (by decide) rfl k310 dX10_loadLayout_77 (w.mono fun x4 w => ?_)
    refine r_iload_n C dX10_loadLayout_80 rfl 1 rfl ?_
    refine r_cvI (rm' := rmX2_slot) C mX2_slot vX2_slot k877 [aI l1] [aP x3] rfl rfl (Nat.le_of_ble_eq_true rfl) (by decide) ⟨Nat.zero_le _, Nat.zero_le _⟩ 0 0 rfl rfl dX10_loadLayout_81 w (fun x5 h6 w => ?_)
    refine r_cvP (rm' := rmX8_slot) C mX8_slot vX8_slot k590 [aI x5] [] rfl rfl (Nat.le_of_ble_eq_true rfl) (by decide) ⟨Nat.zero_le _, Nat.zero_le _⟩ 0 0 rfl rfl dX10_loadLayout_84 w (fun x7 h8 w => ?_)
    refine r_astore_n C dX10_loadLayout_87 rfl (by decide) rfl ?_
    refine r_aload_n C dX10_loadLayout_88 rfl 1 rfl ?_
    refine r_aload_n C dX10_loadLayout_89 rfl 0 rfl ?_
    refine r_aload_n C dX10_loadLayout_90 rfl 1 rfl ?_
    refine r_getP C fcX10 (f := 2) (by decide) rfl k310 dX10_loadLayout_91 (w.mono fun x10 w => ?_)
    refine r_iload_n C dX10_loadLayout_94 rfl 2 rfl ?_
    refine r_cvI (rm' := rmX2_x) C mX2_x vX2_x k881 [aI l1] [aP x7, aP l0] rfl rfl (Nat.le_of_ble_eq_true rfl) (by decide) ⟨Nat.zero_le _, Nat.zero_le _⟩ 0 0 rfl rfl dX10_loadLayout_95 w (fun x11 h12 w => ?_)
    refine r_aload_n C dX10_loadLayout_98 rfl 1 rfl ?_
    refine r_getP C fcX10 (f := 2) (by decide) rfl k310 dX10_loadLayout_99 (w.mono fun x13 w => ?_)
    refine r_iload_n C dX10_loadLayout_102 rfl 2 rfl ?_
    refine r_cvI (rm' := rmX2_y) C mX2_y vX2_y k885 [aI l1] [aI x11, aP x7, aP l0] rfl rfl (Nat.le_of_ble_eq_true rfl) (by decide) ⟨Nat.zero_le _, Nat.zero_le _⟩ 0 0 rfl rfl dX10_loadLayout_103 w (fun x14 h15 w => ?_)
    refine r_cvI (rm' := rmX10_fits) C mX10_fits vX10_fits k838 [aP x7, aI x11, aI x14] [] rfl rfl (Nat.le_of_ble_eq_true rfl) (by decide) ⟨Nat.zero_le _, Nat.zero_le _⟩ 0 0 rfl rfl dX10_loadLayout_106 w (fun x16 h17 w => ?_)
    refine r_if_ne C dX10_loadLayout_109 (tgt := 126) rfl (fun hc => ?_) (fun hc => ?_)
    · have w := w.1 hc
      refine r_aload_n C dX10_loadLayout_126 rfl 1 rfl ?_
      refine r_getP C fcX10 (f := 5) (by decide) rfl k313 dX10_loadLayout_127 (w.mono fun x18 w => ?_)
      refine r_aload_n C dX10_loadLayout_130 rfl 0 rfl ?_
      refine r_aload_n C dX10_loadLayout_131 rfl 1 rfl ?_
      refine r_getP C fcX10 (f := 2) (by decide) rfl k310 dX10_loadLayout_132 (w.mono fun x19 w => ?_)
      refine r_iload_n C dX10_loadLayout_135 rfl 2 rfl ?_
      refine r_cvI (rm' := rmX2_x) C mX2_x vX2_x k881 [aI l1] [aP x7, aP x18] rfl rfl (Nat.le_of_ble_eq_true rfl) (by decide) ⟨Nat.zero_le _, Nat.zero_le _⟩ 0 0 rfl rfl dX10_loadLayout_136 w (fun x20 h21 w => ?_)
      refine r_aload_n C dX10_loadLayout_139 rfl 1 rfl ?_
      refine r_getP C fcX10 (f := 2) (by decide) rfl k310 dX10_loadLayout_140 (w.mono fun x22 w => ?_)
      refine r_iload_n C dX10_loadLayout_143 rfl 2 rfl ?_
      refine r_cvI (rm' := rmX2_y) C mX2_y vX2_y k885 [aI l1] [aI x20, aP x7, aP x18] rfl rfl (Nat.le_of_ble_eq_true rfl) (by decide) ⟨Nat.zero_le _, Nat.zero_le _⟩ 0 0 rfl rfl dX10_loadLayout_144 w (fun x23 h24 w => ?_)
      refine r_cvV (rm' := rmX8_add) C mX8_add vX8_add k823 [aP x7, aI x20, aI x23] [] rfl rfl (Nat.le_of_ble_eq_true rfl) (by decide) ⟨Nat.zero_le _, Nat.zero_le _⟩ 0 0 rfl rfl dX10_loadLayout_147 w (fun h26 w => ?_)
      refine r_iinc C dX10_loadLayout_150 2 rfl (v := 1) rfl (by decide) rfl ?_
      refine r_goto C dX10_loadLayout_153 (tgt := 61) rfl ?_
      exact r_sub [2, 0] rfl (g61 h26 l0 (l1 + (1 : Int32)) w)
    · have w := w.2 hc
      refine r_aload_n C dX10_loadLayout_112 rfl 1 rfl ?_
      refine r_getP C fcX10 (f := 5) (by decide) rfl k313 dX10_loadLayout_113 (w.mono fun x18 w => ?_)
      refine r_aload_n C dX10_loadLayout_116 rfl 1 rfl ?_
      refine r_getP C fcX10 (f := 6) (by decide) rfl k314 dX10_loadLayout_117 (w.mono fun x19 w => ?_)
      refine r_cvV (rm' := rmX8_copy) C mX8_copy vX8_copy k783 [aP x19] [] rfl rfl (Nat.le_of_ble_eq_true rfl) (by decide) ⟨Nat.zero_le _, Nat.zero_le _⟩ 0 0 rfl rfl dX10_loadLayout_120 w (fun h21 w => ?_)
      refine r_ldc (v := -1000002) C dX10_loadLayout_123 k562 ?_
      exact r_iret C D rfl (Nat.zero_le _) (Nat.zero_le _) dX10_loadLayout_125 w
theorem lpX10_loadLayout_61 {E : EV} {X : AX} {post : Option AV → AH → Prop} (C : Cb E X cX10_loadLayout RX10 3 rmX10_loadLayout) (D : Cr E X (some .int) rmX10_loadLayout "loadLayout" post) (I : Nat → AH → Option Nat → Int32 → Prop) (step : ∀ (z : Nat) (h : AH) (l0 : Option Nat) (l1 : Int32), I z h l0 l1 → PX10_loadLayout_61 E post (fun h l0 l1 => ∃ z', z' < z ∧ I z' h l0 l1) h l0 l1) : ∀ (z : Nat) (h : AH) (l0 : Option Nat) (l1 : Int32), I z h l0 l1 → Go E X 3 0 0 61 [(0, aP l0), (1, aI l1)] [] h := by
  intro z
  induction z using Nat.strongRecOn with
  | _ z ih =>
    intro h l0 l1 hI
    exact bX10_loadLayout_61 C D (fun h l0 l1 hJ => by obtain ⟨z', hz, hi⟩ := hJ; exact ih z' hz h l0 l1 hi) (step z h l0 l1 hI)
def PX10_loadLayout_0 (E : EV) (post : Option AV → AH → Prop) (J61 : AH → Option Nat → Int32 → Prop) (h : AH) (l0 : Option Nat) : Prop :=
  rdP h l0 10 2 fun x1 => rdP h l0 10 0 fun x2 => CV (sX2_read E) x1 2 [aP x2] h (kI fun x3 h4 => (¬ x3 = 0 → rdP h4 l0 10 2 fun x5 => rdI h4 x5 2 3 fun x6 => (x6 ≤ (8 : Int32) → rdP h4 l0 10 6 fun x7 => rdP h4 l0 10 5 fun x8 => CV (sX8_copy E) x7 8 [aP x8] h4 (kV fun h10 => rdP h10 l0 10 5 fun x11 => wr h10 x11 8 5 (aI (0 : Int32)) fun h12 => J61 h12 l0 (0 : Int32))) ∧ (¬ x6 ≤ (8 : Int32) → post (some (aI (-1000002 : Int32))) h4)) ∧ (x3 = 0 → rdP h4 l0 10 0 fun x5 => rdI h4 x5 9 2 fun x6 => post (some (aI ((-10 : Int32) - x6))) h4))
theorem bX10_loadLayout_0 {E : EV} {X : AX} {post : Option AV → AH → Prop} (C : Cb E X cX10_loadLayout RX10 3 rmX10_loadLayout) (D : Cr E X (some .int) rmX10_loadLayout "loadLayout" post) {J61 : AH → Option Nat → Int32 → Prop} (g61 : ∀ (h : AH) (l0 : Option Nat) (l1 : Int32), J61 h l0 l1 → Go E X 3 0 0 61 [(0, aP l0), (1, aI l1)] [] h) {h : AH} {l0 : Option Nat} (w : PX10_loadLayout_0 E post J61 h l0) : Go E X 3 0 0 0 [(0, aP l0)] [] h := by
  unfold PX10_loadLayout_0 at w
  refine r_aload_n C dX10_loadLayout_0 rfl 0 rfl ?_
  refine r_getP C fcX10 (f := 2) (by decide) rfl k310 dX10_loadLayout_1 (w.mono fun x1 w => ?_)
  refine r_aload_n C dX10_loadLayout_4 rfl 0 rfl ?_
  refine r_getP C fcX10 (f := 0) (by decide) rfl k308 dX10_loadLayout_5 (w.mono fun x2 w => ?_)
  refine r_cvI (rm' := rmX2_read) C mX2_read vX2_read k858 [aP x2] [] rfl rfl (Nat.le_of_ble_eq_true rfl) (by decide) ⟨Nat.zero_le _, Nat.zero_le _⟩ 0 0 rfl rfl dX10_loadLayout_8 w (fun x3 h4 w => ?_)
  refine r_if_ne C dX10_loadLayout_11 (tgt := 25) rfl (fun hc => ?_) (fun hc => ?_)
  · have w := w.1 hc
    refine r_aload_n C dX10_loadLayout_25 rfl 0 rfl ?_
    refine r_getP C fcX10 (f := 2) (by decide) rfl k310 dX10_loadLayout_26 (w.mono fun x5 w => ?_)
    refine r_getI C fcX2 (f := 3) (by decide) rfl k150 dX10_loadLayout_29 (w.mono fun x6 w => ?_)
    refine r_bipush (v := 8) C dX10_loadLayout_32 rfl ?_
    refine r_icmp_le C dX10_loadLayout_34 (tgt := 40) rfl (fun hc => ?_) (fun hc => ?_)
    · have w := w.1 hc
      refine r_aload_n C dX10_loadLayout_40 rfl 0 rfl ?_
      refine r_getP C fcX10 (f := 6) (by decide) rfl k314 dX10_loadLayout_41 (w.mono fun x7 w => ?_)
      refine r_aload_n C dX10_loadLayout_44 rfl 0 rfl ?_
      refine r_getP C fcX10 (f := 5) (by decide) rfl k313 dX10_loadLayout_45 (w.mono fun x8 w => ?_)
      refine r_cvV (rm' := rmX8_copy) C mX8_copy vX8_copy k783 [aP x8] [] rfl rfl (Nat.le_of_ble_eq_true rfl) (by decide) ⟨Nat.zero_le _, Nat.zero_le _⟩ 0 0 rfl rfl dX10_loadLayout_48 w (fun h10 w => ?_)
      refine r_aload_n C dX10_loadLayout_51 rfl 0 rfl ?_
      refine r_getP C fcX10 (f := 5) (by decide) rfl k313 dX10_loadLayout_52 (w.mono fun x11 w => ?_)
      refine r_iconst (v := 0) C dX10_loadLayout_55 rfl ?_
      refine r_put C fcX8 (f := 5) (by decide) rfl rfl rfl rfl k258 dX10_loadLayout_56 (w.mono fun h12 w => ?_)
      refine r_iconst (v := 0) C dX10_loadLayout_59 rfl ?_
      refine r_istore_n C dX10_loadLayout_60 rfl (by decide) rfl ?_
      exact r_sub [1, 0] rfl (g61 h12 l0 (0 : Int32) w)
    · have w := w.2 hc
      refine r_ldc (v := -1000002) C dX10_loadLayout_37 k562 ?_
      exact r_iret C D rfl (Nat.zero_le _) (Nat.zero_le _) dX10_loadLayout_39 w
  · have w := w.2 hc
    refine r_bipush (v := -10) C dX10_loadLayout_14 rfl ?_
    refine r_aload_n C dX10_loadLayout_16 rfl 0 rfl ?_
    refine r_getP C fcX10 (f := 0) (by decide) rfl k308 dX10_loadLayout_17 (w.mono fun x5 w => ?_)
    refine r_getI C fcX9 (f := 2) (by decide) rfl k79 dX10_loadLayout_20 (w.mono fun x6 w => ?_)
    refine r_isub C dX10_loadLayout_23 ?_
    exact r_iret C D rfl (Nat.zero_le _) (Nat.zero_le _) dX10_loadLayout_24 w
theorem eX10_loadLayout {E : EV} {post : Option AV → AH → Prop} {h : AH} {l0 : Option Nat} {J61 : AH → Option Nat → Int32 → Prop} (g61 : ∀ X : AX, Cb E X cX10_loadLayout RX10 3 rmX10_loadLayout → Cr E X (some .int) rmX10_loadLayout "loadLayout" post → ∀ (h : AH) (l0 : Option Nat) (l1 : Int32), J61 h l0 l1 → Go E X 3 0 0 61 [(0, aP l0), (1, aI l1)] [] h) (w : PX10_loadLayout_0 E post J61 h l0) : sX10_loadLayout E [aP l0] h post := Spec.of RX10 rfl rfl (Nat.le_of_ble_eq_true rfl) fun X C D => bX10_loadLayout_0 C D (g61 X C D) w
theorem dX10_loadShape_0 : decode cX10_loadShape 0 = .ok (.iload_n 1, 1) := by decide +kernel
theorem dX10_loadShape_1 : decode cX10_loadShape 1 = .ok (.invokestatic 98, 3) := by decide +kernel
theorem dX10_loadShape_4 : decode cX10_loadShape 4 = .ok (.ifCond .ne 6, 3) := by decide +kernel
theorem dX10_loadShape_7 : decode cX10_loadShape 7 = .ok (.ldc 88, 2) := by decide +kernel
theorem dX10_loadShape_9 : decode cX10_loadShape 9 = .ok (.ireturn, 1) := by decide +kernel
theorem dX10_loadShape_10 : decode cX10_loadShape 10 = .ok (.aload_n 0, 1) := by decide +kernel
theorem dX10_loadShape_11 : decode cX10_loadShape 11 = .ok (.getfield 22, 3) := by decide +kernel
theorem dX10_loadShape_14 : decode cX10_loadShape 14 = .ok (.aload_n 0, 1) := by decide +kernel
theorem dX10_loadShape_15 : decode cX10_loadShape 15 = .ok (.getfield 13, 3) := by decide +kernel
theorem dX10_loadShape_18 : decode cX10_loadShape 18 = .ok (.invokevirtual 102, 3) := by decide +kernel
theorem dX10_loadShape_21 : decode cX10_loadShape 21 = .ok (.ifCond .ne 14, 3) := by decide +kernel
theorem dX10_loadShape_24 : decode cX10_loadShape 24 = .ok (.bipush (-10), 2) := by decide +kernel
theorem dX10_loadShape_26 : decode cX10_loadShape 26 = .ok (.aload_n 0, 1) := by decide +kernel
theorem dX10_loadShape_27 : decode cX10_loadShape 27 = .ok (.getfield 13, 3) := by decide +kernel
theorem dX10_loadShape_30 : decode cX10_loadShape 30 = .ok (.getfield 106, 3) := by decide +kernel
theorem dX10_loadShape_33 : decode cX10_loadShape 33 = .ok (.isub, 1) := by decide +kernel
theorem dX10_loadShape_34 : decode cX10_loadShape 34 = .ok (.ireturn, 1) := by decide +kernel
theorem dX10_loadShape_35 : decode cX10_loadShape 35 = .ok (.aload_n 0, 1) := by decide +kernel
theorem dX10_loadShape_36 : decode cX10_loadShape 36 = .ok (.getfield 13, 3) := by decide +kernel
theorem dX10_loadShape_39 : decode cX10_loadShape 39 = .ok (.iconst 0, 1) := by decide +kernel
theorem dX10_loadShape_40 : decode cX10_loadShape 40 = .ok (.putfield 89, 3) := by decide +kernel
theorem dX10_loadShape_43 : decode cX10_loadShape 43 = .ok (.aload_n 0, 1) := by decide +kernel
theorem dX10_loadShape_44 : decode cX10_loadShape 44 = .ok (.aload_n 0, 1) := by decide +kernel
theorem dX10_loadShape_45 : decode cX10_loadShape 45 = .ok (.getfield 22, 3) := by decide +kernel
theorem dX10_loadShape_48 : decode cX10_loadShape 48 = .ok (.getfield 109, 3) := by decide +kernel
theorem dX10_loadShape_51 : decode cX10_loadShape 51 = .ok (.iload_n 1, 1) := by decide +kernel
theorem dX10_loadShape_52 : decode cX10_loadShape 52 = .ok (.iconst 0, 1) := by decide +kernel
theorem dX10_loadShape_53 : decode cX10_loadShape 53 = .ok (.invokevirtual 112, 3) := by decide +kernel
theorem dX10_loadShape_56 : decode cX10_loadShape 56 = .ok (.ireturn, 1) := by decide +kernel
abbrev rmX10_loadShape : Room := { frames := 6, cells := 4, slots := 50, locals := 240 }
abbrev sX10_loadShape (E : EV) : List AV → AH → (Option AV → AH → Prop) → Prop := Spec E yX10_loadShape cX10_loadShape 2 (some .int) rmX10_loadShape
theorem mX10_loadShape : Mt yX10_loadShape cX10_loadShape 2 (some .int) 1 := ⟨k690, k1, by decide +kernel⟩
theorem vX10_loadShape : MtV yX10_loadShape 10 := ⟨k688, k689, by decide, (RX10, TX10, 12), rfl, rfl⟩
def PX10_loadShape_0 (E : EV) (post : Option AV → AH → Prop) (k n : Nat) (h : AH) (l0 : Option Nat) (l1 : Int32) : Prop :=
  (k ≤ 4 ∧ n ≤ 50) ∧ CS (sX10_isSlot E) [aI l1] h (kI fun x1 h2 => (¬ x1 = 0 → rdP h2 l0 10 1 fun x3 => rdP h2 l0 10 0 fun x4 => (k ≤ 4 ∧ n ≤ 50) ∧ CV (sX7_read E) x3 7 [aP x4] h2 (kI fun x5 h6 => (¬ x5 = 0 → rdP h6 l0 10 0 fun x7 => wr h6 x7 9 1 (aI (0 : Int32)) fun h8 => rdP h8 l0 10 1 fun x9 => rdP h8 x9 7 0 fun x10 => (k + 4 ≤ 4 ∧ n + 50 ≤ 50) ∧ CV (sX10_storeTurned E) l0 10 [aP x10, aI l1, aI (0 : Int32)] h8 (kI fun x11 h12 => ((k + 4) ≤ 4 ∧ (n + 50) ≤ 50) ∧ post (some (aI x11)) h12)) ∧ (x5 = 0 → rdP h6 l0 10 0 fun x7 => rdI h6 x7 9 2 fun x8 => (k ≤ 4 ∧ n ≤ 50) ∧ post (some (aI ((-10 : Int32) - x8))) h6))) ∧ (x1 = 0 → (k ≤ 4 ∧ n ≤ 50) ∧ post (some (aI (-1000001 : Int32))) h2))
theorem bX10_loadShape_0 {E : EV} {X : AX} {post : Option AV → AH → Prop} (C : Cb E X cX10_loadShape RX10 2 rmX10_loadShape) (D : Cr E X (some .int) rmX10_loadShape "loadShape" post) {k n : Nat} {h : AH} {l0 : Option Nat} {l1 : Int32} (w : PX10_loadShape_0 E post k n h l0 l1) : Go E X 2 k n 0 [(0, aP l0), (1, aI l1)] [] h := by
  unfold PX10_loadShape_0 at w
  refine r_iload_n C dX10_loadShape_0 rfl 1 rfl ?_
  refine r_csI (rm' := rmX10_isSlot) C mX10_isSlot vX10_isSlot k587 [aI l1] [] rfl rfl (Nat.le_of_ble_eq_true rfl) (by decide) w.1 k n rfl rfl dX10_loadShape_1 w.2 (fun x1 h2 w => ?_)
  refine r_if_ne C dX10_loadShape_4 (tgt := 10) rfl (fun hc => ?_) (fun hc => ?_)
  · have w := w.1 hc
    refine r_aload_n C dX10_loadShape_10 rfl 0 rfl ?_
    refine r_getP C fcX10 (f := 1) (by decide) rfl k309 dX10_loadShape_11 (w.mono fun x3 w => ?_)
    refine r_aload_n C dX10_loadShape_14 rfl 0 rfl ?_
    refine r_getP C fcX10 (f := 0) (by decide) rfl k308 dX10_loadShape_15 (w.mono fun x4 w => ?_)
    refine r_cvI (rm' := rmX7_read) C mX7_read vX7_read k691 [aP x4] [] rfl rfl (Nat.le_of_ble_eq_true rfl) (by decide) w.1 k n rfl rfl dX10_loadShape_18 w.2 (fun x5 h6 w => ?_)
    refine r_if_ne C dX10_loadShape_21 (tgt := 35) rfl (fun hc => ?_) (fun hc => ?_)
    · have w := w.1 hc
      refine r_aload_n C dX10_loadShape_35 rfl 0 rfl ?_
      refine r_getP C fcX10 (f := 0) (by decide) rfl k308 dX10_loadShape_36 (w.mono fun x7 w => ?_)
      refine r_iconst (v := 0) C dX10_loadShape_39 rfl ?_
      refine r_put C fcX9 (f := 1) (by decide) rfl rfl rfl rfl k75 dX10_loadShape_40 (w.mono fun h8 w => ?_)
      refine r_aload_n C dX10_loadShape_43 rfl 0 rfl ?_
      refine r_aload_n C dX10_loadShape_44 rfl 0 rfl ?_
      refine r_getP C fcX10 (f := 1) (by decide) rfl k309 dX10_loadShape_45 (w.mono fun x9 w => ?_)
      refine r_getP C fcX7 (f := 0) (by decide) rfl k133 dX10_loadShape_48 (w.mono fun x10 w => ?_)
      refine r_iload_n C dX10_loadShape_51 rfl 1 rfl ?_
      refine r_iconst (v := 0) C dX10_loadShape_52 rfl ?_
      refine r_cvI (rm' := rmX10_storeTurned) C mX10_storeTurned vX10_storeTurned k758 [aP x10, aI l1, aI (0 : Int32)] [] rfl rfl (Nat.le_of_ble_eq_true rfl) (by decide) w.1 (k + 4) (n + 50) rfl rfl dX10_loadShape_53 w.2 (fun x11 h12 w => ?_)
      exact r_iret C D rfl w.1.1 w.1.2 dX10_loadShape_56 w.2
    · have w := w.2 hc
      refine r_bipush (v := -10) C dX10_loadShape_24 rfl ?_
      refine r_aload_n C dX10_loadShape_26 rfl 0 rfl ?_
      refine r_getP C fcX10 (f := 0) (by decide) rfl k308 dX10_loadShape_27 (w.mono fun x7 w => ?_)
      refine r_getI C fcX9 (f := 2) (by decide) rfl k79 dX10_loadShape_30 (w.mono fun x8 w => ?_)
      refine r_isub C dX10_loadShape_33 ?_
      exact r_iret C D rfl w.1.1 w.1.2 dX10_loadShape_34 w.2
  · have w := w.2 hc
    refine r_ldc (v := -1000001) C dX10_loadShape_7 k349 ?_
    exact r_iret C D rfl w.1.1 w.1.2 dX10_loadShape_9 w.2
theorem eX10_loadShape {E : EV} {post : Option AV → AH → Prop} {h : AH} {l0 : Option Nat} {l1 : Int32} (w : PX10_loadShape_0 E post 0 0 h l0 l1) : sX10_loadShape E [aP l0, aI l1] h post := Spec.of RX10 rfl rfl (Nat.le_of_ble_eq_true rfl) fun X C D => bX10_loadShape_0 C D w
theorem dX10_packedDoubleArea_0 : decode cX10_packedDoubleArea 0 = .ok (.iconst 0, 1) := by decide +kernel
theorem dX10_packedDoubleArea_1 : decode cX10_packedDoubleArea 1 = .ok (.istore_n 1, 1) := by decide +kernel
theorem dX10_packedDoubleArea_2 : decode cX10_packedDoubleArea 2 = .ok (.iconst 0, 1) := by decide +kernel
theorem dX10_packedDoubleArea_3 : decode cX10_packedDoubleArea 3 = .ok (.istore_n 2, 1) := by decide +kernel
theorem dX10_packedDoubleArea_4 : decode cX10_packedDoubleArea 4 = .ok (.iload_n 2, 1) := by decide +kernel
theorem dX10_packedDoubleArea_5 : decode cX10_packedDoubleArea 5 = .ok (.aload_n 0, 1) := by decide +kernel
theorem dX10_packedDoubleArea_6 : decode cX10_packedDoubleArea 6 = .ok (.getfield 52, 3) := by decide +kernel
theorem dX10_packedDoubleArea_9 : decode cX10_packedDoubleArea 9 = .ok (.getfield 218, 3) := by decide +kernel
theorem dX10_packedDoubleArea_12 : decode cX10_packedDoubleArea 12 = .ok (.if_icmp .ge 57, 3) := by decide +kernel
theorem dX10_packedDoubleArea_15 : decode cX10_packedDoubleArea 15 = .ok (.aload_n 0, 1) := by decide +kernel
theorem dX10_packedDoubleArea_16 : decode cX10_packedDoubleArea 16 = .ok (.getfield 52, 3) := by decide +kernel
theorem dX10_packedDoubleArea_19 : decode cX10_packedDoubleArea 19 = .ok (.iload_n 2, 1) := by decide +kernel
theorem dX10_packedDoubleArea_20 : decode cX10_packedDoubleArea 20 = .ok (.invokevirtual 261, 3) := by decide +kernel
theorem dX10_packedDoubleArea_23 : decode cX10_packedDoubleArea 23 = .ok (.astore_n 3, 1) := by decide +kernel
theorem dX10_packedDoubleArea_24 : decode cX10_packedDoubleArea 24 = .ok (.iconst 0, 1) := by decide +kernel
theorem dX10_packedDoubleArea_25 : decode cX10_packedDoubleArea 25 = .ok (.istore 4, 2) := by decide +kernel
theorem dX10_packedDoubleArea_27 : decode cX10_packedDoubleArea 27 = .ok (.iload 4, 2) := by decide +kernel
theorem dX10_packedDoubleArea_29 : decode cX10_packedDoubleArea 29 = .ok (.aload_n 3, 1) := by decide +kernel
theorem dX10_packedDoubleArea_30 : decode cX10_packedDoubleArea 30 = .ok (.getfield 136, 3) := by decide +kernel
theorem dX10_packedDoubleArea_33 : decode cX10_packedDoubleArea 33 = .ok (.if_icmp .ge 30, 3) := by decide +kernel
theorem dX10_packedDoubleArea_36 : decode cX10_packedDoubleArea 36 = .ok (.aload_n 3, 1) := by decide +kernel
theorem dX10_packedDoubleArea_37 : decode cX10_packedDoubleArea 37 = .ok (.iload 4, 2) := by decide +kernel
theorem dX10_packedDoubleArea_39 : decode cX10_packedDoubleArea 39 = .ok (.iconst 0, 1) := by decide +kernel
theorem dX10_packedDoubleArea_40 : decode cX10_packedDoubleArea 40 = .ok (.aload_n 0, 1) := by decide +kernel
theorem dX10_packedDoubleArea_41 : decode cX10_packedDoubleArea 41 = .ok (.getfield 69, 3) := by decide +kernel
theorem dX10_packedDoubleArea_44 : decode cX10_packedDoubleArea 44 = .ok (.invokevirtual 143, 3) := by decide +kernel
theorem dX10_packedDoubleArea_47 : decode cX10_packedDoubleArea 47 = .ok (.iload_n 1, 1) := by decide +kernel
theorem dX10_packedDoubleArea_48 : decode cX10_packedDoubleArea 48 = .ok (.aload_n 0, 1) := by decide +kernel
theorem dX10_packedDoubleArea_49 : decode cX10_packedDoubleArea 49 = .ok (.getfield 69, 3) := by decide +kernel
theorem dX10_packedDoubleArea_52 : decode cX10_packedDoubleArea 52 = .ok (.invokevirtual 147, 3) := by decide +kernel
theorem dX10_packedDoubleArea_55 : decode cX10_packedDoubleArea 55 = .ok (.iadd, 1) := by decide +kernel
theorem dX10_packedDoubleArea_56 : decode cX10_packedDoubleArea 56 = .ok (.istore_n 1, 1) := by decide +kernel
theorem dX10_packedDoubleArea_57 : decode cX10_packedDoubleArea 57 = .ok (.iinc 4 1, 3) := by decide +kernel
theorem dX10_packedDoubleArea_60 : decode cX10_packedDoubleArea 60 = .ok (.goto (-33), 3) := by decide +kernel
theorem dX10_packedDoubleArea_63 : decode cX10_packedDoubleArea 63 = .ok (.iinc 2 1, 3) := by decide +kernel
theorem dX10_packedDoubleArea_66 : decode cX10_packedDoubleArea 66 = .ok (.goto (-62), 3) := by decide +kernel
theorem dX10_packedDoubleArea_69 : decode cX10_packedDoubleArea 69 = .ok (.iload_n 1, 1) := by decide +kernel
theorem dX10_packedDoubleArea_70 : decode cX10_packedDoubleArea 70 = .ok (.ireturn, 1) := by decide +kernel
abbrev rmX10_packedDoubleArea : Room := { frames := 3, cells := 0, slots := 0, locals := 120 }
abbrev sX10_packedDoubleArea (E : EV) : List AV → AH → (Option AV → AH → Prop) → Prop := Spec E yX10_packedDoubleArea cX10_packedDoubleArea 5 (some .int) rmX10_packedDoubleArea
theorem mX10_packedDoubleArea : Mt yX10_packedDoubleArea cX10_packedDoubleArea 5 (some .int) 0 := ⟨k577, k1, by decide +kernel⟩
theorem vX10_packedDoubleArea : MtV yX10_packedDoubleArea 10 := ⟨k575, k576, by decide, (RX10, TX10, 12), rfl, rfl⟩
def PX10_packedDoubleArea_27 (E : EV) (post : Option AV → AH → Prop) (J4 : AH → Option Nat → Int32 → Int32 → Prop) (J27 : AH → Option Nat → Int32 → Int32 → Option Nat → Int32 → Prop) (h : AH) (l0 : Option Nat) (l1 : Int32) (l2 : Int32) (l3 : Option Nat) (l4 : Int32) : Prop :=
  rdI h l3 6 3 fun x1 => (x1 ≤ l4 → J4 h l0 l1 (l2 + (1 : Int32))) ∧ (¬ x1 ≤ l4 → rdP h l0 10 8 fun x2 => CV (sX6_copyPiece E) l3 6 [aI l4, aI (0 : Int32), aP x2] h (kV fun h4 => rdP h4 l0 10 8 fun x5 => CV (sX5_areaTwice E) x5 5 [] h4 (kI fun x6 h7 => ∀ v8, v8 = (l1 + x6) → J27 h7 l0 v8 l2 l3 (l4 + (1 : Int32)))))
theorem bX10_packedDoubleArea_27 {E : EV} {X : AX} {post : Option AV → AH → Prop} (C : Cb E X cX10_packedDoubleArea RX10 5 rmX10_packedDoubleArea) (D : Cr E X (some .int) rmX10_packedDoubleArea "packedDoubleArea" post) {J4 : AH → Option Nat → Int32 → Int32 → Prop} (g4 : ∀ (h : AH) (l0 : Option Nat) (l1 : Int32) (l2 : Int32), J4 h l0 l1 l2 → Go E X 5 0 0 4 [(0, aP l0), (1, aI l1), (2, aI l2)] [] h) {J27 : AH → Option Nat → Int32 → Int32 → Option Nat → Int32 → Prop} (g27 : ∀ (h : AH) (l0 : Option Nat) (l1 : Int32) (l2 : Int32) (l3 : Option Nat) (l4 : Int32), J27 h l0 l1 l2 l3 l4 → Go E X 5 0 0 27 [(0, aP l0), (1, aI l1), (2, aI l2), (3, aP l3), (4, aI l4)] [] h) {h : AH} {l0 : Option Nat} {l1 : Int32} {l2 : Int32} {l3 : Option Nat} {l4 : Int32} (w : PX10_packedDoubleArea_27 E post J4 J27 h l0 l1 l2 l3 l4) : Go E X 5 0 0 27 [(0, aP l0), (1, aI l1), (2, aI l2), (3, aP l3), (4, aI l4)] [] h := by
  unfold PX10_packedDoubleArea_27 at w
  refine r_iload C dX10_packedDoubleArea_27 4 rfl ?_
  refine r_aload_n C dX10_packedDoubleArea_29 rfl 3 rfl ?_
  refine r_getI C fcX6 (f := 3) (by decide) rfl k33 dX10_packedDoubleArea_30 (w.mono fun x1 w => ?_)
  refine r_icmp_ge C dX10_packedDoubleArea_33 (tgt := 63) rfl (fun hc => ?_) (fun hc => ?_)
  · have w := w.1 hc
    refine r_iinc C dX10_packedDoubleArea_63 2 rfl (v := 1) rfl (by decide) rfl ?_
    refine r_goto C dX10_packedDoubleArea_66 (tgt := 4) rfl ?_
    exact r_sub [1, 2, 0] rfl (g4 h l0 l1 (l2 + (1 : Int32)) w)
  · have w := w.2 hc
    refine r_aload_n C dX10_packedDoubleArea_36 rfl 3 rfl ?_
    refine r_iload C dX10_packedDoubleArea_37 4 rfl ?_
    refine r_iconst (v := 0) C dX10_packedDoubleArea_39 rfl ?_
    refine r_aload_n C dX10_packedDoubleArea_40 rfl 0 rfl ?_
    refine r_getP C fcX10 (f := 8) (by decide) rfl k316 dX10_packedDoubleArea_41 (w.mono fun x2 w => ?_)
    refine r_cvV (rm' := rmX6_copyPiece) C mX6_copyPiece vX6_copyPiece k578 [aI l4, aI (0 : Int32), aP x2] [] rfl rfl (Nat.le_of_ble_eq_true rfl) (by decide) ⟨Nat.zero_le _, Nat.zero_le _⟩ 0 0 rfl rfl dX10_packedDoubleArea_44 w (fun h4 w => ?_)
    refine r_iload_n C dX10_packedDoubleArea_47 rfl 1 rfl ?_
    refine r_aload_n C dX10_packedDoubleArea_48 rfl 0 rfl ?_
    refine r_getP C fcX10 (f := 8) (by decide) rfl k316 dX10_packedDoubleArea_49 (w.mono fun x5 w => ?_)
    refine r_cvI (rm' := rmX5_areaTwice) C mX5_areaTwice vX5_areaTwice k579 [] [aI l1] rfl rfl (Nat.le_of_ble_eq_true rfl) (by decide) ⟨Nat.zero_le _, Nat.zero_le _⟩ 0 0 rfl rfl dX10_packedDoubleArea_52 w (fun x6 h7 w => ?_)
    refine r_iadd C dX10_packedDoubleArea_55 ?_
    refine r_istore_n C dX10_packedDoubleArea_56 rfl (by decide) rfl ?_
    have w := w _ rfl
    skip
    refine r_iinc C dX10_packedDoubleArea_57 4 rfl (v := 1) rfl (by decide) rfl ?_
    refine r_goto C dX10_packedDoubleArea_60 (tgt := 27) rfl ?_
    exact r_sub [2, 1, 3, 4, 0] rfl (g27 h7 l0 (l1 + x6) l2 l3 (l4 + (1 : Int32)) w)
theorem lpX10_packedDoubleArea_27 {E : EV} {X : AX} {post : Option AV → AH → Prop} (C : Cb E X cX10_packedDoubleArea RX10 5 rmX10_packedDoubleArea) (D : Cr E X (some .int) rmX10_packedDoubleArea "packedDoubleArea" post) {J4 : AH → Option Nat → Int32 → Int32 → Prop} (g4 : ∀ (h : AH) (l0 : Option Nat) (l1 : Int32) (l2 : Int32), J4 h l0 l1 l2 → Go E X 5 0 0 4 [(0, aP l0), (1, aI l1), (2, aI l2)] [] h) (I : Nat → AH → Option Nat → Int32 → Int32 → Option Nat → Int32 → Prop) (step : ∀ (z : Nat) (h : AH) (l0 : Option Nat) (l1 : Int32) (l2 : Int32) (l3 : Option Nat) (l4 : Int32), I z h l0 l1 l2 l3 l4 → PX10_packedDoubleArea_27 E post J4 (fun h l0 l1 l2 l3 l4 => ∃ z', z' < z ∧ I z' h l0 l1 l2 l3 l4) h l0 l1 l2 l3 l4) : ∀ (z : Nat) (h : AH) (l0 : Option Nat) (l1 : Int32) (l2 : Int32) (l3 : Option Nat) (l4 : Int32), I z h l0 l1 l2 l3 l4 → Go E X 5 0 0 27 [(0, aP l0), (1, aI l1), (2, aI l2), (3, aP l3), (4, aI l4)] [] h := by
  intro z
  induction z using Nat.strongRecOn with
  | _ z ih =>
    intro h l0 l1 l2 l3 l4 hI
    exact bX10_packedDoubleArea_27 C D g4 (fun h l0 l1 l2 l3 l4 hJ => by obtain ⟨z', hz, hi⟩ := hJ; exact ih z' hz h l0 l1 l2 l3 l4 hi) (step z h l0 l1 l2 l3 l4 hI)
def PX10_packedDoubleArea_4 (E : EV) (post : Option AV → AH → Prop) (J27 : AH → Option Nat → Int32 → Int32 → Option Nat → Int32 → Prop) (h : AH) (l0 : Option Nat) (l1 : Int32) (l2 : Int32) : Prop :=
  rdP h l0 10 5 fun x1 => rdI h x1 8 5 fun x2 => (x2 ≤ l2 → post (some (aI l1)) h) ∧ (¬ x2 ≤ l2 → rdP h l0 10 5 fun x3 => CV (sX8_shape E) x3 8 [aI l2] h (kP fun x4 h5 => J27 h5 l0 l1 l2 x4 (0 : Int32)))
theorem bX10_packedDoubleArea_4 {E : EV} {X : AX} {post : Option AV → AH → Prop} (C : Cb E X cX10_packedDoubleArea RX10 5 rmX10_packedDoubleArea) (D : Cr E X (some .int) rmX10_packedDoubleArea "packedDoubleArea" post) {J27 : AH → Option Nat → Int32 → Int32 → Option Nat → Int32 → Prop} (g27 : ∀ (h : AH) (l0 : Option Nat) (l1 : Int32) (l2 : Int32) (l3 : Option Nat) (l4 : Int32), J27 h l0 l1 l2 l3 l4 → Go E X 5 0 0 27 [(0, aP l0), (1, aI l1), (2, aI l2), (3, aP l3), (4, aI l4)] [] h) {h : AH} {l0 : Option Nat} {l1 : Int32} {l2 : Int32} (w : PX10_packedDoubleArea_4 E post J27 h l0 l1 l2) : Go E X 5 0 0 4 [(0, aP l0), (1, aI l1), (2, aI l2)] [] h := by
  unfold PX10_packedDoubleArea_4 at w
  refine r_iload_n C dX10_packedDoubleArea_4 rfl 2 rfl ?_
  refine r_aload_n C dX10_packedDoubleArea_5 rfl 0 rfl ?_
  refine r_getP C fcX10 (f := 5) (by decide) rfl k313 dX10_packedDoubleArea_6 (w.mono fun x1 w => ?_)
  refine r_getI C fcX8 (f := 5) (by decide) rfl k258 dX10_packedDoubleArea_9 (w.mono fun x2 w => ?_)
  refine r_icmp_ge C dX10_packedDoubleArea_12 (tgt := 69) rfl (fun hc => ?_) (fun hc => ?_)
  · have w := w.1 hc
    refine r_iload_n C dX10_packedDoubleArea_69 rfl 1 rfl ?_
    exact r_iret C D rfl (Nat.zero_le _) (Nat.zero_le _) dX10_packedDoubleArea_70 w
  · have w := w.2 hc
    refine r_aload_n C dX10_packedDoubleArea_15 rfl 0 rfl ?_
    refine r_getP C fcX10 (f := 5) (by decide) rfl k313 dX10_packedDoubleArea_16 (w.mono fun x3 w => ?_)
    refine r_iload_n C dX10_packedDoubleArea_19 rfl 2 rfl ?_
    refine r_cvP (rm' := rmX8_shape) C mX8_shape vX8_shape k411 [aI l2] [] rfl rfl (Nat.le_of_ble_eq_true rfl) (by decide) ⟨Nat.zero_le _, Nat.zero_le _⟩ 0 0 rfl rfl dX10_packedDoubleArea_20 w (fun x4 h5 w => ?_)
    refine r_astore_n C dX10_packedDoubleArea_23 rfl (by decide) rfl ?_
    refine r_iconst (v := 0) C dX10_packedDoubleArea_24 rfl ?_
    refine r_istore C dX10_packedDoubleArea_25 (by decide) rfl ?_
    exact r_sub [2, 3, 4, 1, 0] rfl (g27 h5 l0 l1 l2 x4 (0 : Int32) w)
def PX10_packedDoubleArea_0 (E : EV) (post : Option AV → AH → Prop) (J4 : AH → Option Nat → Int32 → Int32 → Prop) (h : AH) (l0 : Option Nat) : Prop :=
  J4 h l0 (0 : Int32) (0 : Int32)
theorem bX10_packedDoubleArea_0 {E : EV} {X : AX} {post : Option AV → AH → Prop} (C : Cb E X cX10_packedDoubleArea RX10 5 rmX10_packedDoubleArea) (D : Cr E X (some .int) rmX10_packedDoubleArea "packedDoubleArea" post) {J4 : AH → Option Nat → Int32 → Int32 → Prop} (g4 : ∀ (h : AH) (l0 : Option Nat) (l1 : Int32) (l2 : Int32), J4 h l0 l1 l2 → Go E X 5 0 0 4 [(0, aP l0), (1, aI l1), (2, aI l2)] [] h) {h : AH} {l0 : Option Nat} (w : PX10_packedDoubleArea_0 E post J4 h l0) : Go E X 5 0 0 0 [(0, aP l0)] [] h := by
  unfold PX10_packedDoubleArea_0 at w
  refine r_iconst (v := 0) C dX10_packedDoubleArea_0 rfl ?_
  refine r_istore_n C dX10_packedDoubleArea_1 rfl (by decide) rfl ?_
  refine r_iconst (v := 0) C dX10_packedDoubleArea_2 rfl ?_
  refine r_istore_n C dX10_packedDoubleArea_3 rfl (by decide) rfl ?_
  exact r_sub [2, 1, 0] rfl (g4 h l0 (0 : Int32) (0 : Int32) w)
theorem eX10_packedDoubleArea {E : EV} {post : Option AV → AH → Prop} {h : AH} {l0 : Option Nat} {J4 : AH → Option Nat → Int32 → Int32 → Prop} (g4 : ∀ X : AX, Cb E X cX10_packedDoubleArea RX10 5 rmX10_packedDoubleArea → Cr E X (some .int) rmX10_packedDoubleArea "packedDoubleArea" post → ∀ (h : AH) (l0 : Option Nat) (l1 : Int32) (l2 : Int32), J4 h l0 l1 l2 → Go E X 5 0 0 4 [(0, aP l0), (1, aI l1), (2, aI l2)] [] h) (w : PX10_packedDoubleArea_0 E post J4 h l0) : sX10_packedDoubleArea E [aP l0] h post := Spec.of RX10 rfl rfl (Nat.le_of_ble_eq_true rfl) fun X C D => bX10_packedDoubleArea_0 C D (g4 X C D) w
theorem dX10_pieceCount_0 : decode cX10_pieceCount 0 = .ok (.iload_n 1, 1) := by decide +kernel
theorem dX10_pieceCount_1 : decode cX10_pieceCount 1 = .ok (.invokestatic 98, 3) := by decide +kernel
theorem dX10_pieceCount_4 : decode cX10_pieceCount 4 = .ok (.ifCond .eq 17, 3) := by decide +kernel
theorem dX10_pieceCount_7 : decode cX10_pieceCount 7 = .ok (.aload_n 0, 1) := by decide +kernel
theorem dX10_pieceCount_8 : decode cX10_pieceCount 8 = .ok (.getfield 52, 3) := by decide +kernel
theorem dX10_pieceCount_11 : decode cX10_pieceCount 11 = .ok (.iload_n 1, 1) := by decide +kernel
theorem dX10_pieceCount_12 : decode cX10_pieceCount 12 = .ok (.invokevirtual 116, 3) := by decide +kernel
theorem dX10_pieceCount_15 : decode cX10_pieceCount 15 = .ok (.getfield 136, 3) := by decide +kernel
theorem dX10_pieceCount_18 : decode cX10_pieceCount 18 = .ok (.goto 5, 3) := by decide +kernel
theorem dX10_pieceCount_21 : decode cX10_pieceCount 21 = .ok (.ldc 88, 2) := by decide +kernel
theorem dX10_pieceCount_23 : decode cX10_pieceCount 23 = .ok (.ireturn, 1) := by decide +kernel
abbrev rmX10_pieceCount : Room := { frames := 1, cells := 0, slots := 0, locals := 40 }
abbrev sX10_pieceCount (E : EV) : List AV → AH → (Option AV → AH → Prop) → Prop := Spec E yX10_pieceCount cX10_pieceCount 2 (some .int) rmX10_pieceCount
theorem mX10_pieceCount : Mt yX10_pieceCount cX10_pieceCount 2 (some .int) 1 := ⟨k586, k1, by decide +kernel⟩
theorem vX10_pieceCount : MtV yX10_pieceCount 10 := ⟨k584, k585, by decide, (RX10, TX10, 12), rfl, rfl⟩
def PX10_pieceCount_0 (E : EV) (post : Option AV → AH → Prop) (h : AH) (l0 : Option Nat) (l1 : Int32) : Prop :=
  CS (sX10_isSlot E) [aI l1] h (kI fun x1 h2 => (x1 = 0 → post (some (aI (-1000001 : Int32))) h2) ∧ (¬ x1 = 0 → rdP h2 l0 10 5 fun x3 => CV (sX8_slot E) x3 8 [aI l1] h2 (kP fun x4 h5 => rdI h5 x4 6 3 fun x6 => post (some (aI x6)) h5)))
theorem bX10_pieceCount_0 {E : EV} {X : AX} {post : Option AV → AH → Prop} (C : Cb E X cX10_pieceCount RX10 2 rmX10_pieceCount) (D : Cr E X (some .int) rmX10_pieceCount "pieceCount" post) {h : AH} {l0 : Option Nat} {l1 : Int32} (w : PX10_pieceCount_0 E post h l0 l1) : Go E X 2 0 0 0 [(0, aP l0), (1, aI l1)] [] h := by
  unfold PX10_pieceCount_0 at w
  refine r_iload_n C dX10_pieceCount_0 rfl 1 rfl ?_
  refine r_csI (rm' := rmX10_isSlot) C mX10_isSlot vX10_isSlot k587 [aI l1] [] rfl rfl (Nat.le_of_ble_eq_true rfl) (by decide) ⟨Nat.zero_le _, Nat.zero_le _⟩ 0 0 rfl rfl dX10_pieceCount_1 w (fun x1 h2 w => ?_)
  refine r_if_eq C dX10_pieceCount_4 (tgt := 21) rfl (fun hc => ?_) (fun hc => ?_)
  · have w := w.1 hc
    refine r_ldc (v := -1000001) C dX10_pieceCount_21 k349 ?_
    exact r_iret C D rfl (Nat.zero_le _) (Nat.zero_le _) dX10_pieceCount_23 w
  · have w := w.2 hc
    refine r_aload_n C dX10_pieceCount_7 rfl 0 rfl ?_
    refine r_getP C fcX10 (f := 5) (by decide) rfl k313 dX10_pieceCount_8 (w.mono fun x3 w => ?_)
    refine r_iload_n C dX10_pieceCount_11 rfl 1 rfl ?_
    refine r_cvP (rm' := rmX8_slot) C mX8_slot vX8_slot k590 [aI l1] [] rfl rfl (Nat.le_of_ble_eq_true rfl) (by decide) ⟨Nat.zero_le _, Nat.zero_le _⟩ 0 0 rfl rfl dX10_pieceCount_12 w (fun x4 h5 w => ?_)
    refine r_getI C fcX6 (f := 3) (by decide) rfl k33 dX10_pieceCount_15 (w.mono fun x6 w => ?_)
    refine r_goto C dX10_pieceCount_18 (tgt := 23) rfl ?_
    exact r_iret C D rfl (Nat.zero_le _) (Nat.zero_le _) dX10_pieceCount_23 w
theorem eX10_pieceCount {E : EV} {post : Option AV → AH → Prop} {h : AH} {l0 : Option Nat} {l1 : Int32} (w : PX10_pieceCount_0 E post h l0 l1) : sX10_pieceCount E [aP l0, aI l1] h post := Spec.of RX10 rfl rfl (Nat.le_of_ble_eq_true rfl) fun X C D => bX10_pieceCount_0 C D w
theorem dX10_place_0 : decode cX10_place 0 = .ok (.iload_n 1, 1) := by decide +kernel
theorem dX10_place_1 : decode cX10_place 1 = .ok (.invokestatic 98, 3) := by decide +kernel
theorem dX10_place_4 : decode cX10_place 4 = .ok (.ifCond .eq 17, 3) := by decide +kernel
theorem dX10_place_7 : decode cX10_place 7 = .ok (.iload_n 2, 1) := by decide +kernel
theorem dX10_place_8 : decode cX10_place 8 = .ok (.invokestatic 185, 3) := by decide +kernel
theorem dX10_place_11 : decode cX10_place 11 = .ok (.ifCond .eq 10, 3) := by decide +kernel
theorem dX10_place_14 : decode cX10_place 14 = .ok (.iload_n 3, 1) := by decide +kernel
theorem dX10_place_15 : decode cX10_place 15 = .ok (.invokestatic 185, 3) := by decide +kernel
theorem dX10_place_18 : decode cX10_place 18 = .ok (.ifCond .ne 6, 3) := by decide +kernel
theorem dX10_place_21 : decode cX10_place 21 = .ok (.ldc 88, 2) := by decide +kernel
theorem dX10_place_23 : decode cX10_place 23 = .ok (.ireturn, 1) := by decide +kernel
theorem dX10_place_24 : decode cX10_place 24 = .ok (.aload_n 0, 1) := by decide +kernel
theorem dX10_place_25 : decode cX10_place 25 = .ok (.aload_n 0, 1) := by decide +kernel
theorem dX10_place_26 : decode cX10_place 26 = .ok (.getfield 52, 3) := by decide +kernel
theorem dX10_place_29 : decode cX10_place 29 = .ok (.iload_n 1, 1) := by decide +kernel
theorem dX10_place_30 : decode cX10_place 30 = .ok (.invokevirtual 116, 3) := by decide +kernel
theorem dX10_place_33 : decode cX10_place 33 = .ok (.iload_n 2, 1) := by decide +kernel
theorem dX10_place_34 : decode cX10_place 34 = .ok (.iload_n 3, 1) := by decide +kernel
theorem dX10_place_35 : decode cX10_place 35 = .ok (.invokevirtual 227, 3) := by decide +kernel
theorem dX10_place_38 : decode cX10_place 38 = .ok (.ifCond .ne 6, 3) := by decide +kernel
theorem dX10_place_41 : decode cX10_place 41 = .ok (.ldc 124, 2) := by decide +kernel
theorem dX10_place_43 : decode cX10_place 43 = .ok (.ireturn, 1) := by decide +kernel
theorem dX10_place_44 : decode cX10_place 44 = .ok (.aload_n 0, 1) := by decide +kernel
theorem dX10_place_45 : decode cX10_place 45 = .ok (.getfield 52, 3) := by decide +kernel
theorem dX10_place_48 : decode cX10_place 48 = .ok (.getfield 218, 3) := by decide +kernel
theorem dX10_place_51 : decode cX10_place 51 = .ok (.bipush 8, 2) := by decide +kernel
theorem dX10_place_53 : decode cX10_place 53 = .ok (.if_icmp .lt 6, 3) := by decide +kernel
theorem dX10_place_56 : decode cX10_place 56 = .ok (.ldc 93, 2) := by decide +kernel
theorem dX10_place_58 : decode cX10_place 58 = .ok (.ireturn, 1) := by decide +kernel
theorem dX10_place_59 : decode cX10_place 59 = .ok (.aload_n 0, 1) := by decide +kernel
theorem dX10_place_60 : decode cX10_place 60 = .ok (.aload_n 0, 1) := by decide +kernel
theorem dX10_place_61 : decode cX10_place 61 = .ok (.getfield 52, 3) := by decide +kernel
theorem dX10_place_64 : decode cX10_place 64 = .ok (.iload_n 1, 1) := by decide +kernel
theorem dX10_place_65 : decode cX10_place 65 = .ok (.invokevirtual 116, 3) := by decide +kernel
theorem dX10_place_68 : decode cX10_place 68 = .ok (.iload_n 2, 1) := by decide +kernel
theorem dX10_place_69 : decode cX10_place 69 = .ok (.iload_n 3, 1) := by decide +kernel
theorem dX10_place_70 : decode cX10_place 70 = .ok (.invokevirtual 231, 3) := by decide +kernel
theorem dX10_place_73 : decode cX10_place 73 = .ok (.ireturn, 1) := by decide +kernel
abbrev rmX10_place : Room := { frames := 6, cells := 0, slots := 0, locals := 240 }
abbrev sX10_place (E : EV) : List AV → AH → (Option AV → AH → Prop) → Prop := Spec E yX10_place cX10_place 4 (some .int) rmX10_place
theorem mX10_place : Mt yX10_place cX10_place 4 (some .int) 3 := ⟨k834, k1, by decide +kernel⟩
theorem vX10_place : MtV yX10_place 10 := ⟨k832, k833, by decide, (RX10, TX10, 12), rfl, rfl⟩
def PX10_place_0 (E : EV) (post : Option AV → AH → Prop) (h : AH) (l0 : Option Nat) (l1 : Int32) (l2 : Int32) (l3 : Int32) : Prop :=
  CS (sX10_isSlot E) [aI l1] h (kI fun x1 h2 => (x1 = 0 → post (some (aI (-1000001 : Int32))) h2) ∧ (¬ x1 = 0 → CS (sX10_isNear E) [aI l2] h2 (kI fun x3 h4 => (x3 = 0 → post (some (aI (-1000001 : Int32))) h4) ∧ (¬ x3 = 0 → CS (sX10_isNear E) [aI l3] h4 (kI fun x5 h6 => (¬ x5 = 0 → rdP h6 l0 10 5 fun x7 => CV (sX8_slot E) x7 8 [aI l1] h6 (kP fun x8 h9 => CV (sX10_fits E) l0 10 [aP x8, aI l2, aI l3] h9 (kI fun x10 h11 => (¬ x10 = 0 → rdP h11 l0 10 5 fun x12 => rdI h11 x12 8 5 fun x13 => (x13 < (8 : Int32) → rdP h11 l0 10 5 fun x14 => CV (sX8_slot E) x14 8 [aI l1] h11 (kP fun x15 h16 => CV (sX10_addItem E) l0 10 [aP x15, aI l2, aI l3] h16 (kI fun x17 h18 => post (some (aI x17)) h18))) ∧ (¬ x13 < (8 : Int32) → post (some (aI (-1000003 : Int32))) h11)) ∧ (x10 = 0 → post (some (aI (-1000002 : Int32))) h11)))) ∧ (x5 = 0 → post (some (aI (-1000001 : Int32))) h6))))))
theorem bX10_place_0 {E : EV} {X : AX} {post : Option AV → AH → Prop} (C : Cb E X cX10_place RX10 4 rmX10_place) (D : Cr E X (some .int) rmX10_place "place" post) {h : AH} {l0 : Option Nat} {l1 : Int32} {l2 : Int32} {l3 : Int32} (w : PX10_place_0 E post h l0 l1 l2 l3) : Go E X 4 0 0 0 [(0, aP l0), (1, aI l1), (2, aI l2), (3, aI l3)] [] h := by
  unfold PX10_place_0 at w
  refine r_iload_n C dX10_place_0 rfl 1 rfl ?_
  refine r_csI (rm' := rmX10_isSlot) C mX10_isSlot vX10_isSlot k587 [aI l1] [] rfl rfl (Nat.le_of_ble_eq_true rfl) (by decide) ⟨Nat.zero_le _, Nat.zero_le _⟩ 0 0 rfl rfl dX10_place_1 w (fun x1 h2 w => ?_)
  refine r_if_eq C dX10_place_4 (tgt := 21) rfl (fun hc => ?_) (fun hc => ?_)
  · have w := w.1 hc
    refine r_ldc (v := -1000001) C dX10_place_21 k349 ?_
    exact r_iret C D rfl (Nat.zero_le _) (Nat.zero_le _) dX10_place_23 w
  · have w := w.2 hc
    refine r_iload_n C dX10_place_7 rfl 2 rfl ?_
    refine r_csI (rm' := rmX10_isNear) C mX10_isNear vX10_isNear k835 [aI l2] [] rfl rfl (Nat.le_of_ble_eq_true rfl) (by decide) ⟨Nat.zero_le _, Nat.zero_le _⟩ 0 0 rfl rfl dX10_place_8 w (fun x3 h4 w => ?_)
    refine r_if_eq C dX10_place_11 (tgt := 21) rfl (fun hc => ?_) (fun hc => ?_)
    · have w := w.1 hc
      refine r_ldc (v := -1000001) C dX10_place_21 k349 ?_
      exact r_iret C D rfl (Nat.zero_le _) (Nat.zero_le _) dX10_place_23 w
    · have w := w.2 hc
      refine r_iload_n C dX10_place_14 rfl 3 rfl ?_
      refine r_csI (rm' := rmX10_isNear) C mX10_isNear vX10_isNear k835 [aI l3] [] rfl rfl (Nat.le_of_ble_eq_true rfl) (by decide) ⟨Nat.zero_le _, Nat.zero_le _⟩ 0 0 rfl rfl dX10_place_15 w (fun x5 h6 w => ?_)
      refine r_if_ne C dX10_place_18 (tgt := 24) rfl (fun hc => ?_) (fun hc => ?_)
      · have w := w.1 hc
        refine r_aload_n C dX10_place_24 rfl 0 rfl ?_
        refine r_aload_n C dX10_place_25 rfl 0 rfl ?_
        refine r_getP C fcX10 (f := 5) (by decide) rfl k313 dX10_place_26 (w.mono fun x7 w => ?_)
        refine r_iload_n C dX10_place_29 rfl 1 rfl ?_
        refine r_cvP (rm' := rmX8_slot) C mX8_slot vX8_slot k590 [aI l1] [aP l0] rfl rfl (Nat.le_of_ble_eq_true rfl) (by decide) ⟨Nat.zero_le _, Nat.zero_le _⟩ 0 0 rfl rfl dX10_place_30 w (fun x8 h9 w => ?_)
        refine r_iload_n C dX10_place_33 rfl 2 rfl ?_
        refine r_iload_n C dX10_place_34 rfl 3 rfl ?_
        refine r_cvI (rm' := rmX10_fits) C mX10_fits vX10_fits k838 [aP x8, aI l2, aI l3] [] rfl rfl (Nat.le_of_ble_eq_true rfl) (by decide) ⟨Nat.zero_le _, Nat.zero_le _⟩ 0 0 rfl rfl dX10_place_35 w (fun x10 h11 w => ?_)
        refine r_if_ne C dX10_place_38 (tgt := 44) rfl (fun hc => ?_) (fun hc => ?_)
        · have w := w.1 hc
          refine r_aload_n C dX10_place_44 rfl 0 rfl ?_
          refine r_getP C fcX10 (f := 5) (by decide) rfl k313 dX10_place_45 (w.mono fun x12 w => ?_)
          refine r_getI C fcX8 (f := 5) (by decide) rfl k258 dX10_place_48 (w.mono fun x13 w => ?_)
          refine r_bipush (v := 8) C dX10_place_51 rfl ?_
          refine r_icmp_lt C dX10_place_53 (tgt := 59) rfl (fun hc => ?_) (fun hc => ?_)
          · have w := w.1 hc
            refine r_aload_n C dX10_place_59 rfl 0 rfl ?_
            refine r_aload_n C dX10_place_60 rfl 0 rfl ?_
            refine r_getP C fcX10 (f := 5) (by decide) rfl k313 dX10_place_61 (w.mono fun x14 w => ?_)
            refine r_iload_n C dX10_place_64 rfl 1 rfl ?_
            refine r_cvP (rm' := rmX8_slot) C mX8_slot vX8_slot k590 [aI l1] [aP l0] rfl rfl (Nat.le_of_ble_eq_true rfl) (by decide) ⟨Nat.zero_le _, Nat.zero_le _⟩ 0 0 rfl rfl dX10_place_65 w (fun x15 h16 w => ?_)
            refine r_iload_n C dX10_place_68 rfl 2 rfl ?_
            refine r_iload_n C dX10_place_69 rfl 3 rfl ?_
            refine r_cvI (rm' := rmX10_addItem) C mX10_addItem vX10_addItem k819 [aP x15, aI l2, aI l3] [] rfl rfl (Nat.le_of_ble_eq_true rfl) (by decide) ⟨Nat.zero_le _, Nat.zero_le _⟩ 0 0 rfl rfl dX10_place_70 w (fun x17 h18 w => ?_)
            exact r_iret C D rfl (Nat.zero_le _) (Nat.zero_le _) dX10_place_73 w
          · have w := w.2 hc
            refine r_ldc (v := -1000003) C dX10_place_56 k682 ?_
            exact r_iret C D rfl (Nat.zero_le _) (Nat.zero_le _) dX10_place_58 w
        · have w := w.2 hc
          refine r_ldc (v := -1000002) C dX10_place_41 k562 ?_
          exact r_iret C D rfl (Nat.zero_le _) (Nat.zero_le _) dX10_place_43 w
      · have w := w.2 hc
        refine r_ldc (v := -1000001) C dX10_place_21 k349 ?_
        exact r_iret C D rfl (Nat.zero_le _) (Nat.zero_le _) dX10_place_23 w
theorem eX10_place {E : EV} {post : Option AV → AH → Prop} {h : AH} {l0 : Option Nat} {l1 : Int32} {l2 : Int32} {l3 : Int32} (w : PX10_place_0 E post h l0 l1 l2 l3) : sX10_place E [aP l0, aI l1, aI l2, aI l3] h post := Spec.of RX10 rfl rfl (Nat.le_of_ble_eq_true rfl) fun X C D => bX10_place_0 C D w
theorem dX10_placingError_0 : decode cX10_placingError 0 = .ok (.iload_n 1, 1) := by decide +kernel
theorem dX10_placingError_1 : decode cX10_placingError 1 = .ok (.invokestatic 98, 3) := by decide +kernel
theorem dX10_placingError_4 : decode cX10_placingError 4 = .ok (.ifCond .ne 6, 3) := by decide +kernel
theorem dX10_placingError_7 : decode cX10_placingError 7 = .ok (.ldc 88, 2) := by decide +kernel
theorem dX10_placingError_9 : decode cX10_placingError 9 = .ok (.ireturn, 1) := by decide +kernel
theorem dX10_placingError_10 : decode cX10_placingError 10 = .ok (.aload_n 0, 1) := by decide +kernel
theorem dX10_placingError_11 : decode cX10_placingError 11 = .ok (.iload_n 1, 1) := by decide +kernel
theorem dX10_placingError_12 : decode cX10_placingError 12 = .ok (.invokevirtual 188, 3) := by decide +kernel
theorem dX10_placingError_15 : decode cX10_placingError 15 = .ok (.ifCond .eq 6, 3) := by decide +kernel
theorem dX10_placingError_18 : decode cX10_placingError 18 = .ok (.ldc 124, 2) := by decide +kernel
theorem dX10_placingError_20 : decode cX10_placingError 20 = .ok (.ireturn, 1) := by decide +kernel
theorem dX10_placingError_21 : decode cX10_placingError 21 = .ok (.aload_n 0, 1) := by decide +kernel
theorem dX10_placingError_22 : decode cX10_placingError 22 = .ok (.getfield 52, 3) := by decide +kernel
theorem dX10_placingError_25 : decode cX10_placingError 25 = .ok (.getfield 218, 3) := by decide +kernel
theorem dX10_placingError_28 : decode cX10_placingError 28 = .ok (.bipush 8, 2) := by decide +kernel
theorem dX10_placingError_30 : decode cX10_placingError 30 = .ok (.if_icmp .lt 8, 3) := by decide +kernel
theorem dX10_placingError_33 : decode cX10_placingError 33 = .ok (.ldc 93, 2) := by decide +kernel
theorem dX10_placingError_35 : decode cX10_placingError 35 = .ok (.goto 4, 3) := by decide +kernel
theorem dX10_placingError_38 : decode cX10_placingError 38 = .ok (.iconst 0, 1) := by decide +kernel
theorem dX10_placingError_39 : decode cX10_placingError 39 = .ok (.ireturn, 1) := by decide +kernel
abbrev rmX10_placingError : Room := { frames := 2, cells := 0, slots := 0, locals := 80 }
abbrev sX10_placingError (E : EV) : List AV → AH → (Option AV → AH → Prop) → Prop := Spec E yX10_placingError cX10_placingError 2 (some .int) rmX10_placingError
theorem mX10_placingError : Mt yX10_placingError cX10_placingError 2 (some .int) 1 := ⟨k806, k1, by decide +kernel⟩
theorem vX10_placingError : MtV yX10_placingError 10 := ⟨k805, kp18, by decide, (RX10, TX10, 12), rfl, rfl⟩
def PX10_placingError_0 (E : EV) (post : Option AV → AH → Prop) (h : AH) (l0 : Option Nat) (l1 : Int32) : Prop :=
  CS (sX10_isSlot E) [aI l1] h (kI fun x1 h2 => (¬ x1 = 0 → CV (sX10_isSlotEmpty E) l0 10 [aI l1] h2 (kI fun x3 h4 => (x3 = 0 → rdP h4 l0 10 5 fun x5 => rdI h4 x5 8 5 fun x6 => (x6 < (8 : Int32) → post (some (aI (0 : Int32))) h4) ∧ (¬ x6 < (8 : Int32) → post (some (aI (-1000003 : Int32))) h4)) ∧ (¬ x3 = 0 → post (some (aI (-1000002 : Int32))) h4))) ∧ (x1 = 0 → post (some (aI (-1000001 : Int32))) h2))
theorem bX10_placingError_0 {E : EV} {X : AX} {post : Option AV → AH → Prop} (C : Cb E X cX10_placingError RX10 2 rmX10_placingError) (D : Cr E X (some .int) rmX10_placingError "placingError" post) {h : AH} {l0 : Option Nat} {l1 : Int32} (w : PX10_placingError_0 E post h l0 l1) : Go E X 2 0 0 0 [(0, aP l0), (1, aI l1)] [] h := by
  unfold PX10_placingError_0 at w
  refine r_iload_n C dX10_placingError_0 rfl 1 rfl ?_
  refine r_csI (rm' := rmX10_isSlot) C mX10_isSlot vX10_isSlot k587 [aI l1] [] rfl rfl (Nat.le_of_ble_eq_true rfl) (by decide) ⟨Nat.zero_le _, Nat.zero_le _⟩ 0 0 rfl rfl dX10_placingError_1 w (fun x1 h2 w => ?_)
  refine r_if_ne C dX10_placingError_4 (tgt := 10) rfl (fun hc => ?_) (fun hc => ?_)
  · have w := w.1 hc
    refine r_aload_n C dX10_placingError_10 rfl 0 rfl ?_
    refine r_iload_n C dX10_placingError_11 rfl 1 rfl ?_
    refine r_cvI (rm' := rmX10_isSlotEmpty) C mX10_isSlotEmpty vX10_isSlotEmpty k633 [aI l1] [] rfl rfl (Nat.le_of_ble_eq_true rfl) (by decide) ⟨Nat.zero_le _, Nat.zero_le _⟩ 0 0 rfl rfl dX10_placingError_12 w (fun x3 h4 w => ?_)
    refine r_if_eq C dX10_placingError_15 (tgt := 21) rfl (fun hc => ?_) (fun hc => ?_)
    · have w := w.1 hc
      refine r_aload_n C dX10_placingError_21 rfl 0 rfl ?_
      refine r_getP C fcX10 (f := 5) (by decide) rfl k313 dX10_placingError_22 (w.mono fun x5 w => ?_)
      refine r_getI C fcX8 (f := 5) (by decide) rfl k258 dX10_placingError_25 (w.mono fun x6 w => ?_)
      refine r_bipush (v := 8) C dX10_placingError_28 rfl ?_
      refine r_icmp_lt C dX10_placingError_30 (tgt := 38) rfl (fun hc => ?_) (fun hc => ?_)
      · have w := w.1 hc
        refine r_iconst (v := 0) C dX10_placingError_38 rfl ?_
        exact r_iret C D rfl (Nat.zero_le _) (Nat.zero_le _) dX10_placingError_39 w
      · have w := w.2 hc
        refine r_ldc (v := -1000003) C dX10_placingError_33 k682 ?_
        refine r_goto C dX10_placingError_35 (tgt := 39) rfl ?_
        exact r_iret C D rfl (Nat.zero_le _) (Nat.zero_le _) dX10_placingError_39 w
    · have w := w.2 hc
      refine r_ldc (v := -1000002) C dX10_placingError_18 k562 ?_
      exact r_iret C D rfl (Nat.zero_le _) (Nat.zero_le _) dX10_placingError_20 w
  · have w := w.2 hc
    refine r_ldc (v := -1000001) C dX10_placingError_7 k349 ?_
    exact r_iret C D rfl (Nat.zero_le _) (Nat.zero_le _) dX10_placingError_9 w
theorem eX10_placingError {E : EV} {post : Option AV → AH → Prop} {h : AH} {l0 : Option Nat} {l1 : Int32} (w : PX10_placingError_0 E post h l0 l1) : sX10_placingError E [aP l0, aI l1] h post := Spec.of RX10 rfl rfl (Nat.le_of_ble_eq_true rfl) fun X C D => bX10_placingError_0 C D w
theorem dX10_placeBottomLeft_0 : decode cX10_placeBottomLeft 0 = .ok (.aload_n 0, 1) := by decide +kernel
theorem dX10_placeBottomLeft_1 : decode cX10_placeBottomLeft 1 = .ok (.iload_n 1, 1) := by decide +kernel
theorem dX10_placeBottomLeft_2 : decode cX10_placeBottomLeft 2 = .ok (.invokevirtual 234, 3) := by decide +kernel
theorem dX10_placeBottomLeft_5 : decode cX10_placeBottomLeft 5 = .ok (.istore_n 2, 1) := by decide +kernel
theorem dX10_placeBottomLeft_6 : decode cX10_placeBottomLeft 6 = .ok (.iload_n 2, 1) := by decide +kernel
theorem dX10_placeBottomLeft_7 : decode cX10_placeBottomLeft 7 = .ok (.ifCond .eq 5, 3) := by decide +kernel
theorem dX10_placeBottomLeft_10 : decode cX10_placeBottomLeft 10 = .ok (.iload_n 2, 1) := by decide +kernel
theorem dX10_placeBottomLeft_11 : decode cX10_placeBottomLeft 11 = .ok (.ireturn, 1) := by decide +kernel
theorem dX10_placeBottomLeft_12 : decode cX10_placeBottomLeft 12 = .ok (.aload_n 0, 1) := by decide +kernel
theorem dX10_placeBottomLeft_13 : decode cX10_placeBottomLeft 13 = .ok (.aload_n 0, 1) := by decide +kernel
theorem dX10_placeBottomLeft_14 : decode cX10_placeBottomLeft 14 = .ok (.getfield 52, 3) := by decide +kernel
theorem dX10_placeBottomLeft_17 : decode cX10_placeBottomLeft 17 = .ok (.iload_n 1, 1) := by decide +kernel
theorem dX10_placeBottomLeft_18 : decode cX10_placeBottomLeft 18 = .ok (.invokevirtual 116, 3) := by decide +kernel
theorem dX10_placeBottomLeft_21 : decode cX10_placeBottomLeft 21 = .ok (.invokevirtual 237, 3) := by decide +kernel
theorem dX10_placeBottomLeft_24 : decode cX10_placeBottomLeft 24 = .ok (.ireturn, 1) := by decide +kernel
abbrev rmX10_placeBottomLeft : Room := { frames := 6, cells := 0, slots := 0, locals := 240 }
abbrev sX10_placeBottomLeft (E : EV) : List AV → AH → (Option AV → AH → Prop) → Prop := Spec E yX10_placeBottomLeft cX10_placeBottomLeft 3 (some .int) rmX10_placeBottomLeft
theorem mX10_placeBottomLeft : Mt yX10_placeBottomLeft cX10_placeBottomLeft 3 (some .int) 1 := ⟨k830, k1, by decide +kernel⟩
theorem vX10_placeBottomLeft : MtV yX10_placeBottomLeft 10 := ⟨k828, k829, by decide, (RX10, TX10, 12), rfl, rfl⟩
def PX10_placeBottomLeft_0 (E : EV) (post : Option AV → AH → Prop) (h : AH) (l0 : Option Nat) (l1 : Int32) : Prop :=
  CV (sX10_placingError E) l0 10 [aI l1] h (kI fun x1 h2 => (x1 = 0 → rdP h2 l0 10 5 fun x4 => CV (sX8_slot E) x4 8 [aI l1] h2 (kP fun x5 h6 => CV (sX10_addAtBottomLeft E) l0 10 [aP x5] h6 (kI fun x7 h8 => post (some (aI x7)) h8))) ∧ (¬ x1 = 0 → post (some (aI x1)) h2))
theorem bX10_placeBottomLeft_0 {E : EV} {X : AX} {post : Option AV → AH → Prop} (C : Cb E X cX10_placeBottomLeft RX10 3 rmX10_placeBottomLeft) (D : Cr E X (some .int) rmX10_placeBottomLeft "placeBottomLeft" post) {h : AH} {l0 : Option Nat} {l1 : Int32} (w : PX10_placeBottomLeft_0 E post h l0 l1) : Go E X 3 0 0 0 [(0, aP l0), (1, aI l1)] [] h := by
  unfold PX10_placeBottomLeft_0 at w
  refine r_aload_n C dX10_placeBottomLeft_0 rfl 0 rfl ?_
  refine r_iload_n C dX10_placeBottomLeft_1 rfl 1 rfl ?_
  refine r_cvI (rm' := rmX10_placingError) C mX10_placingError vX10_placingError k803 [aI l1] [] rfl rfl (Nat.le_of_ble_eq_true rfl) (by decide) ⟨Nat.zero_le _, Nat.zero_le _⟩ 0 0 rfl rfl dX10_placeBottomLeft_2 w (fun x1 h2 w => ?_)
  refine r_istore_n C dX10_placeBottomLeft_5 rfl (by decide) rfl ?_
  refine r_iload_n C dX10_placeBottomLeft_6 rfl 0 rfl ?_
  refine r_if_eq C dX10_placeBottomLeft_7 (tgt := 12) rfl (fun hc => ?_) (fun hc => ?_)
  · have w := w.1 hc
    refine r_aload_n C dX10_placeBottomLeft_12 rfl 1 rfl ?_
    refine r_aload_n C dX10_placeBottomLeft_13 rfl 1 rfl ?_
    refine r_getP C fcX10 (f := 5) (by decide) rfl k313 dX10_placeBottomLeft_14 (w.mono fun x4 w => ?_)
    refine r_iload_n C dX10_placeBottomLeft_17 rfl 2 rfl ?_
    refine r_cvP (rm' := rmX8_slot) C mX8_slot vX8_slot k590 [aI l1] [aP l0] rfl rfl (Nat.le_of_ble_eq_true rfl) (by decide) ⟨Nat.zero_le _, Nat.zero_le _⟩ 0 0 rfl rfl dX10_placeBottomLeft_18 w (fun x5 h6 w => ?_)
    refine r_cvI (rm' := rmX10_addAtBottomLeft) C mX10_addAtBottomLeft vX10_addAtBottomLeft k815 [aP x5] [] rfl rfl (Nat.le_of_ble_eq_true rfl) (by decide) ⟨Nat.zero_le _, Nat.zero_le _⟩ 0 0 rfl rfl dX10_placeBottomLeft_21 w (fun x7 h8 w => ?_)
    exact r_iret C D rfl (Nat.zero_le _) (Nat.zero_le _) dX10_placeBottomLeft_24 w
  · have w := w.2 hc
    refine r_iload_n C dX10_placeBottomLeft_10 rfl 0 rfl ?_
    exact r_iret C D rfl (Nat.zero_le _) (Nat.zero_le _) dX10_placeBottomLeft_11 w
theorem eX10_placeBottomLeft {E : EV} {post : Option AV → AH → Prop} {h : AH} {l0 : Option Nat} {l1 : Int32} (w : PX10_placeBottomLeft_0 E post h l0 l1) : sX10_placeBottomLeft E [aP l0, aI l1] h post := Spec.of RX10 rfl rfl (Nat.le_of_ble_eq_true rfl) fun X C D => bX10_placeBottomLeft_0 C D w
theorem dX10_placeTurned_0 : decode cX10_placeTurned 0 = .ok (.aload_n 0, 1) := by decide +kernel
theorem dX10_placeTurned_1 : decode cX10_placeTurned 1 = .ok (.iload_n 1, 1) := by decide +kernel
theorem dX10_placeTurned_2 : decode cX10_placeTurned 2 = .ok (.invokevirtual 234, 3) := by decide +kernel
theorem dX10_placeTurned_5 : decode cX10_placeTurned 5 = .ok (.istore_n 2, 1) := by decide +kernel
theorem dX10_placeTurned_6 : decode cX10_placeTurned 6 = .ok (.iload_n 2, 1) := by decide +kernel
theorem dX10_placeTurned_7 : decode cX10_placeTurned 7 = .ok (.ifCond .eq 5, 3) := by decide +kernel
theorem dX10_placeTurned_10 : decode cX10_placeTurned 10 = .ok (.iload_n 2, 1) := by decide +kernel
theorem dX10_placeTurned_11 : decode cX10_placeTurned 11 = .ok (.ireturn, 1) := by decide +kernel
theorem dX10_placeTurned_12 : decode cX10_placeTurned 12 = .ok (.aload_n 0, 1) := by decide +kernel
theorem dX10_placeTurned_13 : decode cX10_placeTurned 13 = .ok (.aload_n 0, 1) := by decide +kernel
theorem dX10_placeTurned_14 : decode cX10_placeTurned 14 = .ok (.getfield 52, 3) := by decide +kernel
theorem dX10_placeTurned_17 : decode cX10_placeTurned 17 = .ok (.iload_n 1, 1) := by decide +kernel
theorem dX10_placeTurned_18 : decode cX10_placeTurned 18 = .ok (.invokevirtual 116, 3) := by decide +kernel
theorem dX10_placeTurned_21 : decode cX10_placeTurned 21 = .ok (.invokevirtual 241, 3) := by decide +kernel
theorem dX10_placeTurned_24 : decode cX10_placeTurned 24 = .ok (.istore_n 3, 1) := by decide +kernel
theorem dX10_placeTurned_25 : decode cX10_placeTurned 25 = .ok (.iload_n 3, 1) := by decide +kernel
theorem dX10_placeTurned_26 : decode cX10_placeTurned 26 = .ok (.iconst 4, 1) := by decide +kernel
theorem dX10_placeTurned_27 : decode cX10_placeTurned 27 = .ok (.if_icmp .lt 6, 3) := by decide +kernel
theorem dX10_placeTurned_30 : decode cX10_placeTurned 30 = .ok (.ldc 160, 2) := by decide +kernel
theorem dX10_placeTurned_32 : decode cX10_placeTurned 32 = .ok (.ireturn, 1) := by decide +kernel
theorem dX10_placeTurned_33 : decode cX10_placeTurned 33 = .ok (.new 7, 3) := by decide +kernel
theorem dX10_placeTurned_36 : decode cX10_placeTurned 36 = .ok (.dup, 1) := by decide +kernel
theorem dX10_placeTurned_37 : decode cX10_placeTurned 37 = .ok (.invokespecial 9, 3) := by decide +kernel
theorem dX10_placeTurned_40 : decode cX10_placeTurned 40 = .ok (.astore 4, 2) := by decide +kernel
theorem dX10_placeTurned_42 : decode cX10_placeTurned 42 = .ok (.aload 4, 2) := by decide +kernel
theorem dX10_placeTurned_44 : decode cX10_placeTurned 44 = .ok (.aload_n 0, 1) := by decide +kernel
theorem dX10_placeTurned_45 : decode cX10_placeTurned 45 = .ok (.getfield 52, 3) := by decide +kernel
theorem dX10_placeTurned_48 : decode cX10_placeTurned 48 = .ok (.iload_n 1, 1) := by decide +kernel
theorem dX10_placeTurned_49 : decode cX10_placeTurned 49 = .ok (.invokevirtual 116, 3) := by decide +kernel
theorem dX10_placeTurned_52 : decode cX10_placeTurned 52 = .ok (.iload_n 3, 1) := by decide +kernel
theorem dX10_placeTurned_53 : decode cX10_placeTurned 53 = .ok (.invokevirtual 244, 3) := by decide +kernel
theorem dX10_placeTurned_56 : decode cX10_placeTurned 56 = .ok (.aload_n 0, 1) := by decide +kernel
theorem dX10_placeTurned_57 : decode cX10_placeTurned 57 = .ok (.aload 4, 2) := by decide +kernel
theorem dX10_placeTurned_59 : decode cX10_placeTurned 59 = .ok (.invokevirtual 237, 3) := by decide +kernel
theorem dX10_placeTurned_62 : decode cX10_placeTurned 62 = .ok (.ireturn, 1) := by decide +kernel
abbrev rmX10_placeTurned : Room := { frames := 6, cells := 4, slots := 50, locals := 240 }
abbrev sX10_placeTurned (E : EV) : List AV → AH → (Option AV → AH → Prop) → Prop := Spec E yX10_placeTurned cX10_placeTurned 5 (some .int) rmX10_placeTurned
theorem mX10_placeTurned : Mt yX10_placeTurned cX10_placeTurned 5 (some .int) 1 := ⟨k802, k1, by decide +kernel⟩
theorem vX10_placeTurned : MtV yX10_placeTurned 10 := ⟨k800, k801, by decide, (RX10, TX10, 12), rfl, rfl⟩
def PX10_placeTurned_0 (E : EV) (post : Option AV → AH → Prop) (k n : Nat) (h : AH) (l0 : Option Nat) (l1 : Int32) : Prop :=
  (k ≤ 4 ∧ n ≤ 50) ∧ CV (sX10_placingError E) l0 10 [aI l1] h (kI fun x1 h2 => (x1 = 0 → rdP h2 l0 10 5 fun x4 => (k ≤ 4 ∧ n ≤ 50) ∧ CV (sX8_slot E) x4 8 [aI l1] h2 (kP fun x5 h6 => (k ≤ 4 ∧ n ≤ 50) ∧ CV (sX10_bestTurns E) l0 10 [aP x5] h6 (kI fun x7 h8 => (x7 < (4 : Int32) → (k + 1 ≤ 4 ∧ n + 9 ≤ 50) ∧ (∀ h10, h10 = h8 ++ [.inr (6, [aP none, aP none, aP none, aI 0, aI 0, aI 0, aI 0, aI 0, aI 0])] → ((k + 1) + 3 ≤ 4 ∧ (n + 9) + 40 ≤ 50) ∧ CS (sX6_init E) [aP (some h8.length)] h10 (kV fun h12 => rdP h12 l0 10 5 fun x14 => (((k + 1) + 3) ≤ 4 ∧ ((n + 9) + 40) ≤ 50) ∧ CV (sX8_slot E) x14 8 [aI l1] h12 (kP fun x15 h16 => (((k + 1) + 3) ≤ 4 ∧ ((n + 9) + 40) ≤ 50) ∧ CV (sX6_setTurned E) (some h8.length) 6 [aP x15, aI x7] h16 (kV fun h18 => (((k + 1) + 3) ≤ 4 ∧ ((n + 9) + 40) ≤ 50) ∧ CV (sX10_addAtBottomLeft E) l0 10 [aP (some h8.length)] h18 (kI fun x19 h20 => (((k + 1) + 3) ≤ 4 ∧ ((n + 9) + 40) ≤ 50) ∧ post (some (aI x19)) h20)))))) ∧ (¬ x7 < (4 : Int32) → (k ≤ 4 ∧ n ≤ 50) ∧ post (some (aI (-1000009 : Int32))) h8)))) ∧ (¬ x1 = 0 → (k ≤ 4 ∧ n ≤ 50) ∧ post (some (aI x1)) h2))
theorem bX10_placeTurned_0 {E : EV} {X : AX} {post : Option AV → AH → Prop} (C : Cb E X cX10_placeTurned RX10 5 rmX10_placeTurned) (D : Cr E X (some .int) rmX10_placeTurned "placeTurned" post) {k n : Nat} {h : AH} {l0 : Option Nat} {l1 : Int32} (w : PX10_placeTurned_0 E post k n h l0 l1) : Go E X 5 k n 0 [(0, aP l0), (1, aI l1)] [] h := by
  unfold PX10_placeTurned_0 at w
  refine r_aload_n C dX10_placeTurned_0 rfl 0 rfl ?_
  refine r_iload_n C dX10_placeTurned_1 rfl 1 rfl ?_
  refine r_cvI (rm' := rmX10_placingError) C mX10_placingError vX10_placingError k803 [aI l1] [] rfl rfl (Nat.le_of_ble_eq_true rfl) (by decide) w.1 k n rfl rfl dX10_placeTurned_2 w.2 (fun x1 h2 w => ?_)
  refine r_istore_n C dX10_placeTurned_5 rfl (by decide) rfl ?_
  refine r_iload_n C dX10_placeTurned_6 rfl 0 rfl ?_
  refine r_if_eq C dX10_placeTurned_7 (tgt := 12) rfl (fun hc => ?_) (fun hc => ?_)
  · have w := w.1 hc
    refine r_aload_n C dX10_placeTurned_12 rfl 1 rfl ?_
    refine r_aload_n C dX10_placeTurned_13 rfl 1 rfl ?_
    refine r_getP C fcX10 (f := 5) (by decide) rfl k313 dX10_placeTurned_14 (w.mono fun x4 w => ?_)
    refine r_iload_n C dX10_placeTurned_17 rfl 2 rfl ?_
    refine r_cvP (rm' := rmX8_slot) C mX8_slot vX8_slot k590 [aI l1] [aP l0] rfl rfl (Nat.le_of_ble_eq_true rfl) (by decide) w.1 k n rfl rfl dX10_placeTurned_18 w.2 (fun x5 h6 w => ?_)
    refine r_cvI (rm' := rmX10_bestTurns) C mX10_bestTurns vX10_bestTurns k807 [aP x5] [] rfl rfl (Nat.le_of_ble_eq_true rfl) (by decide) w.1 k n rfl rfl dX10_placeTurned_21 w.2 (fun x7 h8 w => ?_)
    refine r_istore_n C dX10_placeTurned_24 rfl (by decide) rfl ?_
    refine r_iload_n C dX10_placeTurned_25 rfl 0 rfl ?_
    refine r_iconst (v := 4) C dX10_placeTurned_26 rfl ?_
    refine r_icmp_lt C dX10_placeTurned_27 (tgt := 33) rfl (fun hc => ?_) (fun hc => ?_)
    · have w := w.1 hc
      refine r_new (fs := [aP none, aP none, aP none, aI 0, aI 0, aI 0, aI 0, aI 0, aI 0]) C fcX6 rfl df_X6 k21 k22 k2 w.1.1 w.1.2 dX10_placeTurned_33 ?_
      have w := w.2 _ rfl
      generalize h8 ++ [.inr (6, [aP none, aP none, aP none, aI 0, aI 0, aI 0, aI 0, aI 0, aI 0])] = h10 at w ⊢
      refine r_dup C dX10_placeTurned_36 rfl ?_
      refine r_ciV (rm' := rmX6_init) C mX6_init vX6_init (host := "NestingPlanner") (Or.inr nk23) [] [aP (some h8.length)] rfl rfl (Nat.le_of_ble_eq_true rfl) (by decide) w.1 ((k + 1) + 3) ((n + 9) + 40) rfl rfl dX10_placeTurned_37 rfl w.2 (fun h12 w => ?_)
      refine r_astore C dX10_placeTurned_40 (by decide) rfl ?_
      refine r_aload C dX10_placeTurned_42 0 rfl ?_
      refine r_aload_n C dX10_placeTurned_44 rfl 3 rfl ?_
      refine r_getP C fcX10 (f := 5) (by decide) rfl k313 dX10_placeTurned_45 (w.mono fun x14 w => ?_)
      refine r_iload_n C dX10_placeTurned_48 rfl 4 rfl ?_
      refine r_cvP (rm' := rmX8_slot) C mX8_slot vX8_slot k590 [aI l1] [aP (some h8.length)] rfl rfl (Nat.le_of_ble_eq_true rfl) (by decide) w.1 ((k + 1) + 3) ((n + 9) + 40) rfl rfl dX10_placeTurned_49 w.2 (fun x15 h16 w => ?_)
      refine r_iload_n C dX10_placeTurned_52 rfl 1 rfl ?_
      refine r_cvV (rm' := rmX6_setTurned) C mX6_setTurned vX6_setTurned k762 [aP x15, aI x7] [] rfl rfl (Nat.le_of_ble_eq_true rfl) (by decide) w.1 ((k + 1) + 3) ((n + 9) + 40) rfl rfl dX10_placeTurned_53 w.2 (fun h18 w => ?_)
      refine r_aload_n C dX10_placeTurned_56 rfl 3 rfl ?_
      refine r_aload C dX10_placeTurned_57 0 rfl ?_
      refine r_cvI (rm' := rmX10_addAtBottomLeft) C mX10_addAtBottomLeft vX10_addAtBottomLeft k815 [aP (some h8.length)] [] rfl rfl (Nat.le_of_ble_eq_true rfl) (by decide) w.1 ((k + 1) + 3) ((n + 9) + 40) rfl rfl dX10_placeTurned_59 w.2 (fun x19 h20 w => ?_)
      exact r_iret C D rfl w.1.1 w.1.2 dX10_placeTurned_62 w.2
    · have w := w.2 hc
      refine r_ldc (v := -1000009) C dX10_placeTurned_30 k537 ?_
      exact r_iret C D rfl w.1.1 w.1.2 dX10_placeTurned_32 w.2
  · have w := w.2 hc
    refine r_iload_n C dX10_placeTurned_10 rfl 0 rfl ?_
    exact r_iret C D rfl w.1.1 w.1.2 dX10_placeTurned_11 w.2
theorem eX10_placeTurned {E : EV} {post : Option AV → AH → Prop} {h : AH} {l0 : Option Nat} {l1 : Int32} (w : PX10_placeTurned_0 E post 0 0 h l0 l1) : sX10_placeTurned E [aP l0, aI l1] h post := Spec.of RX10 rfl rfl (Nat.le_of_ble_eq_true rfl) fun X C D => bX10_placeTurned_0 C D w
