theorem dX3_isStopped_0 : decode cX3_isStopped 0 = .ok (.aload_n 0, 1) := by decide +kernel
theorem dX3_isStopped_1 : decode cX3_isStopped 1 = .ok (.getfield 27, 3) := by decide +kernel
theorem dX3_isStopped_4 : decode cX3_isStopped 4 = .ok (.invokevirtual 58, 3) := by decide +kernel
theorem dX3_isStopped_7 : decode cX3_isStopped 7 = .ok (.iconst 0, 1) := by decide +kernel
theorem dX3_isStopped_8 : decode cX3_isStopped 8 = .ok (.istore 7, 2) := by decide +kernel
theorem dX3_isStopped_10 : decode cX3_isStopped 10 = .ok (.iconst 0, 1) := by decide +kernel
theorem dX3_isStopped_11 : decode cX3_isStopped 11 = .ok (.istore 8, 2) := by decide +kernel
theorem dX3_isStopped_13 : decode cX3_isStopped 13 = .ok (.iload 8, 2) := by decide +kernel
theorem dX3_isStopped_15 : decode cX3_isStopped 15 = .ok (.aload_n 1, 1) := by decide +kernel
theorem dX3_isStopped_16 : decode cX3_isStopped 16 = .ok (.getfield 41, 3) := by decide +kernel
theorem dX3_isStopped_19 : decode cX3_isStopped 19 = .ok (.if_icmp .ge 62, 3) := by decide +kernel
theorem dX3_isStopped_22 : decode cX3_isStopped 22 = .ok (.iconst 0, 1) := by decide +kernel
theorem dX3_isStopped_23 : decode cX3_isStopped 23 = .ok (.istore 9, 2) := by decide +kernel
theorem dX3_isStopped_25 : decode cX3_isStopped 25 = .ok (.iload 9, 2) := by decide +kernel
theorem dX3_isStopped_27 : decode cX3_isStopped 27 = .ok (.aload_n 2, 1) := by decide +kernel
theorem dX3_isStopped_28 : decode cX3_isStopped 28 = .ok (.getfield 41, 3) := by decide +kernel
theorem dX3_isStopped_31 : decode cX3_isStopped 31 = .ok (.if_icmp .ge 44, 3) := by decide +kernel
theorem dX3_isStopped_34 : decode cX3_isStopped 34 = .ok (.aload_n 0, 1) := by decide +kernel
theorem dX3_isStopped_35 : decode cX3_isStopped 35 = .ok (.aload_n 1, 1) := by decide +kernel
theorem dX3_isStopped_36 : decode cX3_isStopped 36 = .ok (.iload 8, 2) := by decide +kernel
theorem dX3_isStopped_38 : decode cX3_isStopped 38 = .ok (.aload_n 2, 1) := by decide +kernel
theorem dX3_isStopped_39 : decode cX3_isStopped 39 = .ok (.iload 9, 2) := by decide +kernel
theorem dX3_isStopped_41 : decode cX3_isStopped 41 = .ok (.iconst 2, 1) := by decide +kernel
theorem dX3_isStopped_42 : decode cX3_isStopped 42 = .ok (.invokevirtual 45, 3) := by decide +kernel
theorem dX3_isStopped_45 : decode cX3_isStopped 45 = .ok (.aload_n 0, 1) := by decide +kernel
theorem dX3_isStopped_46 : decode cX3_isStopped 46 = .ok (.getfield 21, 3) := by decide +kernel
theorem dX3_isStopped_49 : decode cX3_isStopped 49 = .ok (.iload_n 3, 1) := by decide +kernel
theorem dX3_isStopped_50 : decode cX3_isStopped 50 = .ok (.iload 4, 2) := by decide +kernel
theorem dX3_isStopped_52 : decode cX3_isStopped 52 = .ok (.iload 5, 2) := by decide +kernel
theorem dX3_isStopped_54 : decode cX3_isStopped 54 = .ok (.iload 6, 2) := by decide +kernel
theorem dX3_isStopped_56 : decode cX3_isStopped 56 = .ok (.aload_n 0, 1) := by decide +kernel
theorem dX3_isStopped_57 : decode cX3_isStopped 57 = .ok (.getfield 27, 3) := by decide +kernel
theorem dX3_isStopped_60 : decode cX3_isStopped 60 = .ok (.invokevirtual 65, 3) := by decide +kernel
theorem dX3_isStopped_63 : decode cX3_isStopped 63 = .ok (.ifCond .eq 6, 3) := by decide +kernel
theorem dX3_isStopped_66 : decode cX3_isStopped 66 = .ok (.iconst 1, 1) := by decide +kernel
theorem dX3_isStopped_67 : decode cX3_isStopped 67 = .ok (.istore 7, 2) := by decide +kernel
theorem dX3_isStopped_69 : decode cX3_isStopped 69 = .ok (.iinc 9 1, 3) := by decide +kernel
theorem dX3_isStopped_72 : decode cX3_isStopped 72 = .ok (.goto (-47), 3) := by decide +kernel
theorem dX3_isStopped_75 : decode cX3_isStopped 75 = .ok (.iinc 8 1, 3) := by decide +kernel
theorem dX3_isStopped_78 : decode cX3_isStopped 78 = .ok (.goto (-65), 3) := by decide +kernel
theorem dX3_isStopped_81 : decode cX3_isStopped 81 = .ok (.iload 7, 2) := by decide +kernel
theorem dX3_isStopped_83 : decode cX3_isStopped 83 = .ok (.ireturn, 1) := by decide +kernel
abbrev rmX3_isStopped : Room := { frames := 4, cells := 0, slots := 0, locals := 160 }
abbrev sX3_isStopped (E : EV) : List AV → AH → (Option AV → AH → Prop) → Prop := Spec E yX3_isStopped cX3_isStopped 10 (some .boolean) rmX3_isStopped
theorem mX3_isStopped : Mt yX3_isStopped cX3_isStopped 10 (some .boolean) 6 := ⟨k524, k7, by decide +kernel⟩
theorem vX3_isStopped : MtV yX3_isStopped 3 := ⟨k522, k523, by decide, (RX3, TX3, 4), rfl, rfl⟩
def PX3_isStopped_25 (E : EV) (post : Option AV → AH → Prop) (J13 : AH → Option Nat → Option Nat → Option Nat → Int32 → Int32 → Int32 → Int32 → Int32 → Int32 → Prop) (J25 : AH → Option Nat → Option Nat → Option Nat → Int32 → Int32 → Int32 → Int32 → Int32 → Int32 → Int32 → Prop) (h : AH) (l0 : Option Nat) (l1 : Option Nat) (l2 : Option Nat) (l3 : Int32) (l4 : Int32) (l5 : Int32) (l6 : Int32) (l7 : Int32) (l8 : Int32) (l9 : Int32) : Prop :=
  rdI h l2 6 3 fun x1 => (x1 ≤ l9 → J13 h l0 l1 l2 l3 l4 l5 l6 l7 (l8 + (1 : Int32))) ∧ (¬ x1 ≤ l9 → CV (sX3_addUp E) l0 3 [aP l1, aI l8, aP l2, aI l9, aI (2 : Int32)] h (kV fun h3 => rdP h3 l0 3 2 fun x4 => rdP h3 l0 3 3 fun x5 => CV (sX5_lowerToEntry E) x4 5 [aI l3, aI l4, aI l5, aI l6, aP x5] h3 (kI fun x6 h7 => (x6 = 0 → J25 h7 l0 l1 l2 l3 l4 l5 l6 l7 l8 (l9 + (1 : Int32))) ∧ (¬ x6 = 0 → J25 h7 l0 l1 l2 l3 l4 l5 l6 (1 : Int32) l8 (l9 + (1 : Int32))))))
theorem bX3_isStopped_25 {E : EV} {X : AX} {post : Option AV → AH → Prop} (C : Cb E X cX3_isStopped RX3 10 rmX3_isStopped) (D : Cr E X (some .boolean) rmX3_isStopped "isStopped" post) {J13 : AH → Option Nat → Option Nat → Option Nat → Int32 → Int32 → Int32 → Int32 → Int32 → Int32 → Prop} (g13 : ∀ (h : AH) (l0 : Option Nat) (l1 : Option Nat) (l2 : Option Nat) (l3 : Int32) (l4 : Int32) (l5 : Int32) (l6 : Int32) (l7 : Int32) (l8 : Int32), J13 h l0 l1 l2 l3 l4 l5 l6 l7 l8 → Go E X 10 0 0 13 [(0, aP l0), (1, aP l1), (2, aP l2), (3, aI l3), (4, aI l4), (5, aI l5), (6, aI l6), (7, aI l7), (8, aI l8)] [] h) {J25 : AH → Option Nat → Option Nat → Option Nat → Int32 → Int32 → Int32 → Int32 → Int32 → Int32 → Int32 → Prop} (g25 : ∀ (h : AH) (l0 : Option Nat) (l1 : Option Nat) (l2 : Option Nat) (l3 : Int32) (l4 : Int32) (l5 : Int32) (l6 : Int32) (l7 : Int32) (l8 : Int32) (l9 : Int32), J25 h l0 l1 l2 l3 l4 l5 l6 l7 l8 l9 → Go E X 10 0 0 25 [(0, aP l0), (1, aP l1), (2, aP l2), (3, aI l3), (4, aI l4), (5, aI l5), (6, aI l6), (7, aI l7), (8, aI l8), (9, aI l9)] [] h) {h : AH} {l0 : Option Nat} {l1 : Option Nat} {l2 : Option Nat} {l3 : Int32} {l4 : Int32} {l5 : Int32} {l6 : Int32} {l7 : Int32} {l8 : Int32} {l9 : Int32} (w : PX3_isStopped_25 E post J13 J25 h l0 l1 l2 l3 l4 l5 l6 l7 l8 l9) : Go E X 10 0 0 25 [(0, aP l0), (1, aP l1), (2, aP l2), (3, aI l3), (4, aI l4), (5, aI l5), (6, aI l6), (7, aI l7), (8, aI l8), (9, aI l9)] [] h := by
  unfold PX3_isStopped_25 at w
  refine r_iload C dX3_isStopped_25 9 rfl ?_
  refine r_aload_n C dX3_isStopped_27 rfl 2 rfl ?_
  refine r_getI C fcX6 (f := 3) (by decide) rfl k32 dX3_isStopped_28 (w.mono fun x1 w => ?_)
  refine r_icmp_ge C dX3_isStopped_31 (tgt := 75) rfl (fun hc => ?_) (fun hc => ?_)
  · have w := w.1 hc
    refine r_iinc C dX3_isStopped_75 8 rfl (v := 1) rfl (by decide) rfl ?_
    refine r_goto C dX3_isStopped_78 (tgt := 13) rfl ?_
    exact r_sub [1, 2, 3, 4, 5, 6, 7, 8, 0] rfl (g13 h l0 l1 l2 l3 l4 l5 l6 l7 (l8 + (1 : Int32)) w)
  · have w := w.2 hc
    refine r_aload_n C dX3_isStopped_34 rfl 0 rfl ?_
    refine r_aload_n C dX3_isStopped_35 rfl 1 rfl ?_
    refine r_iload C dX3_isStopped_36 8 rfl ?_
    refine r_aload_n C dX3_isStopped_38 rfl 2 rfl ?_
    refine r_iload C dX3_isStopped_39 9 rfl ?_
    refine r_iconst (v := 2) C dX3_isStopped_41 rfl ?_
    refine r_cvV (rm' := rmX3_addUp) C mX3_addUp vX3_addUp k424 [aP l1, aI l8, aP l2, aI l9, aI (2 : Int32)] [] rfl rfl (Nat.le_of_ble_eq_true rfl) (by decide) ⟨Nat.zero_le _, Nat.zero_le _⟩ 0 0 rfl rfl dX3_isStopped_42 w (fun h3 w => ?_)
    refine r_aload_n C dX3_isStopped_45 rfl 0 rfl ?_
    refine r_getP C fcX3 (f := 2) (by decide) rfl k185 dX3_isStopped_46 (w.mono fun x4 w => ?_)
    refine r_iload_n C dX3_isStopped_49 rfl 3 rfl ?_
    refine r_iload C dX3_isStopped_50 4 rfl ?_
    refine r_iload C dX3_isStopped_52 5 rfl ?_
    refine r_iload C dX3_isStopped_54 6 rfl ?_
    refine r_aload_n C dX3_isStopped_56 rfl 0 rfl ?_
    refine r_getP C fcX3 (f := 3) (by decide) rfl k187 dX3_isStopped_57 (w.mono fun x5 w => ?_)
    refine r_cvI (rm' := rmX5_lowerToEntry) C mX5_lowerToEntry vX5_lowerToEntry k525 [aI l3, aI l4, aI l5, aI l6, aP x5] [] rfl rfl (Nat.le_of_ble_eq_true rfl) (by decide) ⟨Nat.zero_le _, Nat.zero_le _⟩ 0 0 rfl rfl dX3_isStopped_60 w (fun x6 h7 w => ?_)
    refine r_if_eq C dX3_isStopped_63 (tgt := 69) rfl (fun hc => ?_) (fun hc => ?_)
    · have w := w.1 hc
      refine r_iinc C dX3_isStopped_69 9 rfl (v := 1) rfl (by decide) rfl ?_
      refine r_goto C dX3_isStopped_72 (tgt := 25) rfl ?_
      exact r_sub [1, 2, 3, 4, 5, 6, 7, 8, 9, 0] rfl (g25 h7 l0 l1 l2 l3 l4 l5 l6 l7 l8 (l9 + (1 : Int32)) w)
    · have w := w.2 hc
      refine r_iconst (v := 1) C dX3_isStopped_66 rfl ?_
      refine r_istore C dX3_isStopped_67 (by decide) rfl ?_
      refine r_iinc C dX3_isStopped_69 9 rfl (v := 1) rfl (by decide) rfl ?_
      refine r_goto C dX3_isStopped_72 (tgt := 25) rfl ?_
      exact r_sub [2, 3, 4, 5, 6, 7, 8, 1, 9, 0] rfl (g25 h7 l0 l1 l2 l3 l4 l5 l6 (1 : Int32) l8 (l9 + (1 : Int32)) w)
theorem lpX3_isStopped_25 {E : EV} {X : AX} {post : Option AV → AH → Prop} (C : Cb E X cX3_isStopped RX3 10 rmX3_isStopped) (D : Cr E X (some .boolean) rmX3_isStopped "isStopped" post) {J13 : AH → Option Nat → Option Nat → Option Nat → Int32 → Int32 → Int32 → Int32 → Int32 → Int32 → Prop} (g13 : ∀ (h : AH) (l0 : Option Nat) (l1 : Option Nat) (l2 : Option Nat) (l3 : Int32) (l4 : Int32) (l5 : Int32) (l6 : Int32) (l7 : Int32) (l8 : Int32), J13 h l0 l1 l2 l3 l4 l5 l6 l7 l8 → Go E X 10 0 0 13 [(0, aP l0), (1, aP l1), (2, aP l2), (3, aI l3), (4, aI l4), (5, aI l5), (6, aI l6), (7, aI l7), (8, aI l8)] [] h) (I : Nat → AH → Option Nat → Option Nat → Option Nat → Int32 → Int32 → Int32 → Int32 → Int32 → Int32 → Int32 → Prop) (step : ∀ (z : Nat) (h : AH) (l0 : Option Nat) (l1 : Option Nat) (l2 : Option Nat) (l3 : Int32) (l4 : Int32) (l5 : Int32) (l6 : Int32) (l7 : Int32) (l8 : Int32) (l9 : Int32), I z h l0 l1 l2 l3 l4 l5 l6 l7 l8 l9 → PX3_isStopped_25 E post J13 (fun h l0 l1 l2 l3 l4 l5 l6 l7 l8 l9 => ∃ z', z' < z ∧ I z' h l0 l1 l2 l3 l4 l5 l6 l7 l8 l9) h l0 l1 l2 l3 l4 l5 l6 l7 l8 l9) : ∀ (z : Nat) (h : AH) (l0 : Option Nat) (l1 : Option Nat) (l2 : Option Nat) (l3 : Int32) (l4 : Int32) (l5 : Int32) (l6 : Int32) (l7 : Int32) (l8 : Int32) (l9 : Int32), I z h l0 l1 l2 l3 l4 l5 l6 l7 l8 l9 → Go E X 10 0 0 25 [(0, aP l0), (1, aP l1), (2, aP l2), (3, aI l3), (4, aI l4), (5, aI l5), (6, aI l6), (7, aI l7), (8, aI l8), (9, aI l9)] [] h := by
  intro z
  induction z using Nat.strongRecOn with
  | _ z ih =>
    intro h l0 l1 l2 l3 l4 l5 l6 l7 l8 l9 hI
    exact bX3_isStopped_25 C D g13 (fun h l0 l1 l2 l3 l4 l5 l6 l7 l8 l9 hJ => by obtain ⟨z', hz, hi⟩ := hJ; exact ih z' hz h l0 l1 l2 l3 l4 l5 l6 l7 l8 l9 hi) (step z h l0 l1 l2 l3 l4 l5 l6 l7 l8 l9 hI)
def PX3_isStopped_13 (E : EV) (post : Option AV → AH → Prop) (J25 : AH → Option Nat → Option Nat → Option Nat → Int32 → Int32 → Int32 → Int32 → Int32 → Int32 → Int32 → Prop) (h : AH) (l0 : Option Nat) (l1 : Option Nat) (l2 : Option Nat) (l3 : Int32) (l4 : Int32) (l5 : Int32) (l6 : Int32) (l7 : Int32) (l8 : Int32) : Prop :=
  rdI h l1 6 3 fun x1 => (x1 ≤ l8 → (l7 = 0 ∨ l7 = 1) ∧ post (some (aI l7)) h) ∧ (¬ x1 ≤ l8 → J25 h l0 l1 l2 l3 l4 l5 l6 l7 l8 (0 : Int32))
theorem bX3_isStopped_13 {E : EV} {X : AX} {post : Option AV → AH → Prop} (C : Cb E X cX3_isStopped RX3 10 rmX3_isStopped) (D : Cr E X (some .boolean) rmX3_isStopped "isStopped" post) {J25 : AH → Option Nat → Option Nat → Option Nat → Int32 → Int32 → Int32 → Int32 → Int32 → Int32 → Int32 → Prop} (g25 : ∀ (h : AH) (l0 : Option Nat) (l1 : Option Nat) (l2 : Option Nat) (l3 : Int32) (l4 : Int32) (l5 : Int32) (l6 : Int32) (l7 : Int32) (l8 : Int32) (l9 : Int32), J25 h l0 l1 l2 l3 l4 l5 l6 l7 l8 l9 → Go E X 10 0 0 25 [(0, aP l0), (1, aP l1), (2, aP l2), (3, aI l3), (4, aI l4), (5, aI l5), (6, aI l6), (7, aI l7), (8, aI l8), (9, aI l9)] [] h) {h : AH} {l0 : Option Nat} {l1 : Option Nat} {l2 : Option Nat} {l3 : Int32} {l4 : Int32} {l5 : Int32} {l6 : Int32} {l7 : Int32} {l8 : Int32} (w : PX3_isStopped_13 E post J25 h l0 l1 l2 l3 l4 l5 l6 l7 l8) : Go E X 10 0 0 13 [(0, aP l0), (1, aP l1), (2, aP l2), (3, aI l3), (4, aI l4), (5, aI l5), (6, aI l6), (7, aI l7), (8, aI l8)] [] h := by
  unfold PX3_isStopped_13 at w
  refine r_iload C dX3_isStopped_13 8 rfl ?_
  refine r_aload_n C dX3_isStopped_15 rfl 1 rfl ?_
  refine r_getI C fcX6 (f := 3) (by decide) rfl k32 dX3_isStopped_16 (w.mono fun x1 w => ?_)
  refine r_icmp_ge C dX3_isStopped_19 (tgt := 81) rfl (fun hc => ?_) (fun hc => ?_)
  · have w := w.1 hc
    refine r_iload C dX3_isStopped_81 7 rfl ?_
    exact r_zret C D rfl w.1 (Nat.zero_le _) (Nat.zero_le _) dX3_isStopped_83 w.2
  · have w := w.2 hc
    refine r_iconst (v := 0) C dX3_isStopped_22 rfl ?_
    refine r_istore C dX3_isStopped_23 (by decide) rfl ?_
    exact r_sub [1, 2, 3, 4, 5, 6, 7, 8, 9, 0] rfl (g25 h l0 l1 l2 l3 l4 l5 l6 l7 l8 (0 : Int32) w)
def PX3_isStopped_0 (E : EV) (post : Option AV → AH → Prop) (J13 : AH → Option Nat → Option Nat → Option Nat → Int32 → Int32 → Int32 → Int32 → Int32 → Int32 → Prop) (h : AH) (l0 : Option Nat) (l1 : Option Nat) (l2 : Option Nat) (l3 : Int32) (l4 : Int32) (l5 : Int32) (l6 : Int32) : Prop :=
  rdP h l0 3 3 fun x1 => CV (sX0_setInfinite E) x1 0 [] h (kV fun h3 => J13 h3 l0 l1 l2 l3 l4 l5 l6 (0 : Int32) (0 : Int32))
theorem bX3_isStopped_0 {E : EV} {X : AX} {post : Option AV → AH → Prop} (C : Cb E X cX3_isStopped RX3 10 rmX3_isStopped) (D : Cr E X (some .boolean) rmX3_isStopped "isStopped" post) {J13 : AH → Option Nat → Option Nat → Option Nat → Int32 → Int32 → Int32 → Int32 → Int32 → Int32 → Prop} (g13 : ∀ (h : AH) (l0 : Option Nat) (l1 : Option Nat) (l2 : Option Nat) (l3 : Int32) (l4 : Int32) (l5 : Int32) (l6 : Int32) (l7 : Int32) (l8 : Int32), J13 h l0 l1 l2 l3 l4 l5 l6 l7 l8 → Go E X 10 0 0 13 [(0, aP l0), (1, aP l1), (2, aP l2), (3, aI l3), (4, aI l4), (5, aI l5), (6, aI l6), (7, aI l7), (8, aI l8)] [] h) {h : AH} {l0 : Option Nat} {l1 : Option Nat} {l2 : Option Nat} {l3 : Int32} {l4 : Int32} {l5 : Int32} {l6 : Int32} (w : PX3_isStopped_0 E post J13 h l0 l1 l2 l3 l4 l5 l6) : Go E X 10 0 0 0 [(0, aP l0), (1, aP l1), (2, aP l2), (3, aI l3), (4, aI l4), (5, aI l5), (6, aI l6)] [] h := by
  unfold PX3_isStopped_0 at w
  refine r_aload_n C dX3_isStopped_0 rfl 0 rfl ?_
  refine r_getP C fcX3 (f := 3) (by decide) rfl k187 dX3_isStopped_1 (w.mono fun x1 w => ?_)
  refine r_cvV (rm' := rmX0_setInfinite) C mX0_setInfinite vX0_setInfinite k416 [] [] rfl rfl (Nat.le_of_ble_eq_true rfl) (by decide) ⟨Nat.zero_le _, Nat.zero_le _⟩ 0 0 rfl rfl dX3_isStopped_4 w (fun h3 w => ?_)
  refine r_iconst (v := 0) C dX3_isStopped_7 rfl ?_
  refine r_istore C dX3_isStopped_8 (by decide) rfl ?_
  refine r_iconst (v := 0) C dX3_isStopped_10 rfl ?_
  refine r_istore C dX3_isStopped_11 (by decide) rfl ?_
  exact r_sub [2, 3, 4, 5, 6, 7, 8, 1, 0] rfl (g13 h3 l0 l1 l2 l3 l4 l5 l6 (0 : Int32) (0 : Int32) w)
theorem eX3_isStopped {E : EV} {post : Option AV → AH → Prop} {h : AH} {l0 : Option Nat} {l1 : Option Nat} {l2 : Option Nat} {l3 : Int32} {l4 : Int32} {l5 : Int32} {l6 : Int32} {J13 : AH → Option Nat → Option Nat → Option Nat → Int32 → Int32 → Int32 → Int32 → Int32 → Int32 → Prop} (g13 : ∀ X : AX, Cb E X cX3_isStopped RX3 10 rmX3_isStopped → Cr E X (some .boolean) rmX3_isStopped "isStopped" post → ∀ (h : AH) (l0 : Option Nat) (l1 : Option Nat) (l2 : Option Nat) (l3 : Int32) (l4 : Int32) (l5 : Int32) (l6 : Int32) (l7 : Int32) (l8 : Int32), J13 h l0 l1 l2 l3 l4 l5 l6 l7 l8 → Go E X 10 0 0 13 [(0, aP l0), (1, aP l1), (2, aP l2), (3, aI l3), (4, aI l4), (5, aI l5), (6, aI l6), (7, aI l7), (8, aI l8)] [] h) (w : PX3_isStopped_0 E post J13 h l0 l1 l2 l3 l4 l5 l6) : sX3_isStopped E [aP l0, aP l1, aP l2, aI l3, aI l4, aI l5, aI l6] h post := Spec.of RX3 rfl rfl (Nat.le_of_ble_eq_true rfl) fun X C D => bX3_isStopped_0 C D (g13 X C D) w
theorem dX5_locate_0 : decode cX5_locate 0 = .ok (.iload_n 1, 1) := by decide +kernel
theorem dX5_locate_1 : decode cX5_locate 1 = .ok (.aload_n 0, 1) := by decide +kernel
theorem dX5_locate_2 : decode cX5_locate 2 = .ok (.getfield 32, 3) := by decide +kernel
theorem dX5_locate_5 : decode cX5_locate 5 = .ok (.if_icmp .lt 27, 3) := by decide +kernel
theorem dX5_locate_8 : decode cX5_locate 8 = .ok (.iload_n 1, 1) := by decide +kernel
theorem dX5_locate_9 : decode cX5_locate 9 = .ok (.aload_n 0, 1) := by decide +kernel
theorem dX5_locate_10 : decode cX5_locate 10 = .ok (.getfield 35, 3) := by decide +kernel
theorem dX5_locate_13 : decode cX5_locate 13 = .ok (.if_icmp .gt 19, 3) := by decide +kernel
theorem dX5_locate_16 : decode cX5_locate 16 = .ok (.iload_n 2, 1) := by decide +kernel
theorem dX5_locate_17 : decode cX5_locate 17 = .ok (.aload_n 0, 1) := by decide +kernel
theorem dX5_locate_18 : decode cX5_locate 18 = .ok (.getfield 22, 3) := by decide +kernel
theorem dX5_locate_21 : decode cX5_locate 21 = .ok (.if_icmp .lt 11, 3) := by decide +kernel
theorem dX5_locate_24 : decode cX5_locate 24 = .ok (.iload_n 2, 1) := by decide +kernel
theorem dX5_locate_25 : decode cX5_locate 25 = .ok (.aload_n 0, 1) := by decide +kernel
theorem dX5_locate_26 : decode cX5_locate 26 = .ok (.getfield 38, 3) := by decide +kernel
theorem dX5_locate_29 : decode cX5_locate 29 = .ok (.if_icmp .le 5, 3) := by decide +kernel
theorem dX5_locate_32 : decode cX5_locate 32 = .ok (.iconst 0, 1) := by decide +kernel
theorem dX5_locate_33 : decode cX5_locate 33 = .ok (.ireturn, 1) := by decide +kernel
theorem dX5_locate_34 : decode cX5_locate 34 = .ok (.iconst 2, 1) := by decide +kernel
theorem dX5_locate_35 : decode cX5_locate 35 = .ok (.istore_n 3, 1) := by decide +kernel
theorem dX5_locate_36 : decode cX5_locate 36 = .ok (.iconst 0, 1) := by decide +kernel
theorem dX5_locate_37 : decode cX5_locate 37 = .ok (.istore 4, 2) := by decide +kernel
theorem dX5_locate_39 : decode cX5_locate 39 = .ok (.iload 4, 2) := by decide +kernel
theorem dX5_locate_41 : decode cX5_locate 41 = .ok (.aload_n 0, 1) := by decide +kernel
theorem dX5_locate_42 : decode cX5_locate 42 = .ok (.getfield 18, 3) := by decide +kernel
theorem dX5_locate_45 : decode cX5_locate 45 = .ok (.if_icmp .ge 33, 3) := by decide +kernel
theorem dX5_locate_48 : decode cX5_locate 48 = .ok (.aload_n 0, 1) := by decide +kernel
theorem dX5_locate_49 : decode cX5_locate 49 = .ok (.iload 4, 2) := by decide +kernel
theorem dX5_locate_51 : decode cX5_locate 51 = .ok (.iload_n 1, 1) := by decide +kernel
theorem dX5_locate_52 : decode cX5_locate 52 = .ok (.iload_n 2, 1) := by decide +kernel
theorem dX5_locate_53 : decode cX5_locate 53 = .ok (.invokevirtual 44, 3) := by decide +kernel
theorem dX5_locate_56 : decode cX5_locate 56 = .ok (.istore 5, 2) := by decide +kernel
theorem dX5_locate_58 : decode cX5_locate 58 = .ok (.iload 5, 2) := by decide +kernel
theorem dX5_locate_60 : decode cX5_locate 60 = .ok (.ifCond .ge 5, 3) := by decide +kernel
theorem dX5_locate_63 : decode cX5_locate 63 = .ok (.iconst 0, 1) := by decide +kernel
theorem dX5_locate_64 : decode cX5_locate 64 = .ok (.ireturn, 1) := by decide +kernel
theorem dX5_locate_65 : decode cX5_locate 65 = .ok (.iload 5, 2) := by decide +kernel
theorem dX5_locate_67 : decode cX5_locate 67 = .ok (.ifCond .ne 5, 3) := by decide +kernel
theorem dX5_locate_70 : decode cX5_locate 70 = .ok (.iconst 1, 1) := by decide +kernel
theorem dX5_locate_71 : decode cX5_locate 71 = .ok (.istore_n 3, 1) := by decide +kernel
theorem dX5_locate_72 : decode cX5_locate 72 = .ok (.iinc 4 1, 3) := by decide +kernel
theorem dX5_locate_75 : decode cX5_locate 75 = .ok (.goto (-36), 3) := by decide +kernel
theorem dX5_locate_78 : decode cX5_locate 78 = .ok (.iload_n 3, 1) := by decide +kernel
theorem dX5_locate_79 : decode cX5_locate 79 = .ok (.ireturn, 1) := by decide +kernel
abbrev rmX5_locate : Room := { frames := 2, cells := 0, slots := 0, locals := 80 }
abbrev sX5_locate (E : EV) : List AV → AH → (Option AV → AH → Prop) → Prop := Spec E yX5_locate cX5_locate 6 (some .int) rmX5_locate
theorem mX5_locate : Mt yX5_locate cX5_locate 6 (some .int) 2 := ⟨k482, k5, by decide +kernel⟩
theorem vX5_locate : MtV yX5_locate 5 := ⟨k480, k481, by decide, (RX5, TX5, 8), rfl, rfl⟩
def PX5_locate_39 (E : EV) (post : Option AV → AH → Prop) (J39 : AH → Option Nat → Int32 → Int32 → Int32 → Int32 → Prop) (h : AH) (l0 : Option Nat) (l1 : Int32) (l2 : Int32) (l3 : Int32) (l4 : Int32) : Prop :=
  rdI h l0 5 2 fun x1 => (x1 ≤ l4 → post (some (aI l3)) h) ∧ (¬ x1 ≤ l4 → CV (sX5_side E) l0 5 [aI l4, aI l1, aI l2] h (kI fun x2 h3 => (0 ≤ x2 → (¬ x2 = 0 → J39 h3 l0 l1 l2 l3 (l4 + (1 : Int32))) ∧ (x2 = 0 → J39 h3 l0 l1 l2 (1 : Int32) (l4 + (1 : Int32)))) ∧ (¬ 0 ≤ x2 → post (some (aI (0 : Int32))) h3)))
theorem bX5_locate_39 {E : EV} {X : AX} {post : Option AV → AH → Prop} (C : Cb E X cX5_locate RX5 6 rmX5_locate) (D : Cr E X (some .int) rmX5_locate "locate" post) {J39 : AH → Option Nat → Int32 → Int32 → Int32 → Int32 → Prop} (g39 : ∀ (h : AH) (l0 : Option Nat) (l1 : Int32) (l2 : Int32) (l3 : Int32) (l4 : Int32), J39 h l0 l1 l2 l3 l4 → Go E X 6 0 0 39 [(0, aP l0), (1, aI l1), (2, aI l2), (3, aI l3), (4, aI l4)] [] h) {h : AH} {l0 : Option Nat} {l1 : Int32} {l2 : Int32} {l3 : Int32} {l4 : Int32} (w : PX5_locate_39 E post J39 h l0 l1 l2 l3 l4) : Go E X 6 0 0 39 [(0, aP l0), (1, aI l1), (2, aI l2), (3, aI l3), (4, aI l4)] [] h := by
  unfold PX5_locate_39 at w
  refine r_iload C dX5_locate_39 4 rfl ?_
  refine r_aload_n C dX5_locate_41 rfl 0 rfl ?_
  refine r_getI C fcX5 (f := 2) (by decide) rfl k108 dX5_locate_42 (w.mono fun x1 w => ?_)
  refine r_icmp_ge C dX5_locate_45 (tgt := 78) rfl (fun hc => ?_) (fun hc => ?_)
  · have w := w.1 hc
    refine r_iload_n C dX5_locate_78 rfl 3 rfl ?_
    exact r_iret C D rfl (Nat.zero_le _) (Nat.zero_le _) dX5_locate_79 w
  · have w := w.2 hc
    refine r_aload_n C dX5_locate_48 rfl 0 rfl ?_
    refine r_iload C dX5_locate_49 4 rfl ?_
    refine r_iload_n C dX5_locate_51 rfl 1 rfl ?_
    refine r_iload_n C dX5_locate_52 rfl 2 rfl ?_
    refine r_cvI (rm' := rmX5_side) C mX5_side vX5_side k483 [aI l4, aI l1, aI l2] [] rfl rfl (Nat.le_of_ble_eq_true rfl) (by decide) ⟨Nat.zero_le _, Nat.zero_le _⟩ 0 0 rfl rfl dX5_locate_53 w (fun x2 h3 w => ?_)
    refine r_istore C dX5_locate_56 (by decide) rfl ?_
    refine r_iload C dX5_locate_58 0 rfl ?_
    refine r_if_ge C dX5_locate_60 (tgt := 65) rfl (fun hc => ?_) (fun hc => ?_)
    · have w := w.1 hc
      refine r_iload C dX5_locate_65 0 rfl ?_
      refine r_if_ne C dX5_locate_67 (tgt := 72) rfl (fun hc => ?_) (fun hc => ?_)
      · have w := w.1 hc
        refine r_iinc C dX5_locate_72 5 rfl (v := 1) rfl (by decide) rfl ?_
        refine r_goto C dX5_locate_75 (tgt := 39) rfl ?_
        exact r_sub [2, 3, 4, 5, 0] rfl (g39 h3 l0 l1 l2 l3 (l4 + (1 : Int32)) w)
      · have w := w.2 hc
        refine r_iconst (v := 1) C dX5_locate_70 rfl ?_
        refine r_istore_n C dX5_locate_71 rfl (by decide) rfl ?_
        refine r_iinc C dX5_locate_72 5 rfl (v := 1) rfl (by decide) rfl ?_
        refine r_goto C dX5_locate_75 (tgt := 39) rfl ?_
        exact r_sub [3, 4, 5, 1, 0] rfl (g39 h3 l0 l1 l2 (1 : Int32) (l4 + (1 : Int32)) w)
    · have w := w.2 hc
      refine r_iconst (v := 0) C dX5_locate_63 rfl ?_
      exact r_iret C D rfl (Nat.zero_le _) (Nat.zero_le _) dX5_locate_64 w
theorem lpX5_locate_39 {E : EV} {X : AX} {post : Option AV → AH → Prop} (C : Cb E X cX5_locate RX5 6 rmX5_locate) (D : Cr E X (some .int) rmX5_locate "locate" post) (I : Nat → AH → Option Nat → Int32 → Int32 → Int32 → Int32 → Prop) (step : ∀ (z : Nat) (h : AH) (l0 : Option Nat) (l1 : Int32) (l2 : Int32) (l3 : Int32) (l4 : Int32), I z h l0 l1 l2 l3 l4 → PX5_locate_39 E post (fun h l0 l1 l2 l3 l4 => ∃ z', z' < z ∧ I z' h l0 l1 l2 l3 l4) h l0 l1 l2 l3 l4) : ∀ (z : Nat) (h : AH) (l0 : Option Nat) (l1 : Int32) (l2 : Int32) (l3 : Int32) (l4 : Int32), I z h l0 l1 l2 l3 l4 → Go E X 6 0 0 39 [(0, aP l0), (1, aI l1), (2, aI l2), (3, aI l3), (4, aI l4)] [] h := by
  intro z
  induction z using Nat.strongRecOn with
  | _ z ih =>
    intro h l0 l1 l2 l3 l4 hI
    exact bX5_locate_39 C D (fun h l0 l1 l2 l3 l4 hJ => by obtain ⟨z', hz, hi⟩ := hJ; exact ih z' hz h l0 l1 l2 l3 l4 hi) (step z h l0 l1 l2 l3 l4 hI)
def PX5_locate_0 (E : EV) (post : Option AV → AH → Prop) (J39 : AH → Option Nat → Int32 → Int32 → Int32 → Int32 → Prop) (h : AH) (l0 : Option Nat) (l1 : Int32) (l2 : Int32) : Prop :=
  rdI h l0 5 4 fun x1 => (l1 < x1 → post (some (aI (0 : Int32))) h) ∧ (¬ l1 < x1 → rdI h l0 5 6 fun x2 => (x2 < l1 → post (some (aI (0 : Int32))) h) ∧ (¬ x2 < l1 → rdI h l0 5 5 fun x3 => (l2 < x3 → post (some (aI (0 : Int32))) h) ∧ (¬ l2 < x3 → rdI h l0 5 7 fun x4 => (l2 ≤ x4 → J39 h l0 l1 l2 (2 : Int32) (0 : Int32)) ∧ (¬ l2 ≤ x4 → post (some (aI (0 : Int32))) h))))
theorem bX5_locate_0 {E : EV} {X : AX} {post : Option AV → AH → Prop} (C : Cb E X cX5_locate RX5 6 rmX5_locate) (D : Cr E X (some .int) rmX5_locate "locate" post) {J39 : AH → Option Nat → Int32 → Int32 → Int32 → Int32 → Prop} (g39 : ∀ (h : AH) (l0 : Option Nat) (l1 : Int32) (l2 : Int32) (l3 : Int32) (l4 : Int32), J39 h l0 l1 l2 l3 l4 → Go E X 6 0 0 39 [(0, aP l0), (1, aI l1), (2, aI l2), (3, aI l3), (4, aI l4)] [] h) {h : AH} {l0 : Option Nat} {l1 : Int32} {l2 : Int32} (w : PX5_locate_0 E post J39 h l0 l1 l2) : Go E X 6 0 0 0 [(0, aP l0), (1, aI l1), (2, aI l2)] [] h := by
  unfold PX5_locate_0 at w
  refine r_iload_n C dX5_locate_0 rfl 1 rfl ?_
  refine r_aload_n C dX5_locate_1 rfl 0 rfl ?_
  refine r_getI C fcX5 (f := 4) (by decide) rfl k111 dX5_locate_2 (w.mono fun x1 w => ?_)
  refine r_icmp_lt C dX5_locate_5 (tgt := 32) rfl (fun hc => ?_) (fun hc => ?_)
  · have w := w.1 hc
    refine r_iconst (v := 0) C dX5_locate_32 rfl ?_
    exact r_iret C D rfl (Nat.zero_le _) (Nat.zero_le _) dX5_locate_33 w
  · have w := w.2 hc
    refine r_iload_n C dX5_locate_8 rfl 1 rfl ?_
    refine r_aload_n C dX5_locate_9 rfl 0 rfl ?_
    refine r_getI C fcX5 (f := 6) (by decide) rfl k113 dX5_locate_10 (w.mono fun x2 w => ?_)
    refine r_icmp_gt C dX5_locate_13 (tgt := 32) rfl (fun hc => ?_) (fun hc => ?_)
    · have w := w.1 hc
      refine r_iconst (v := 0) C dX5_locate_32 rfl ?_
      exact r_iret C D rfl (Nat.zero_le _) (Nat.zero_le _) dX5_locate_33 w
    · have w := w.2 hc
      refine r_iload_n C dX5_locate_16 rfl 2 rfl ?_
      refine r_aload_n C dX5_locate_17 rfl 0 rfl ?_
      refine r_getI C fcX5 (f := 5) (by decide) rfl k112 dX5_locate_18 (w.mono fun x3 w => ?_)
      refine r_icmp_lt C dX5_locate_21 (tgt := 32) rfl (fun hc => ?_) (fun hc => ?_)
      · have w := w.1 hc
        refine r_iconst (v := 0) C dX5_locate_32 rfl ?_
        exact r_iret C D rfl (Nat.zero_le _) (Nat.zero_le _) dX5_locate_33 w
      · have w := w.2 hc
        refine r_iload_n C dX5_locate_24 rfl 2 rfl ?_
        refine r_aload_n C dX5_locate_25 rfl 0 rfl ?_
        refine r_getI C fcX5 (f := 7) (by decide) rfl k114 dX5_locate_26 (w.mono fun x4 w => ?_)
        refine r_icmp_le C dX5_locate_29 (tgt := 34) rfl (fun hc => ?_) (fun hc => ?_)
        · have w := w.1 hc
          refine r_iconst (v := 2) C dX5_locate_34 rfl ?_
          refine r_istore_n C dX5_locate_35 rfl (by decide) rfl ?_
          refine r_iconst (v := 0) C dX5_locate_36 rfl ?_
          refine r_istore C dX5_locate_37 (by decide) rfl ?_
          exact r_sub [2, 3, 4, 1, 0] rfl (g39 h l0 l1 l2 (2 : Int32) (0 : Int32) w)
        · have w := w.2 hc
          refine r_iconst (v := 0) C dX5_locate_32 rfl ?_
          exact r_iret C D rfl (Nat.zero_le _) (Nat.zero_le _) dX5_locate_33 w
theorem eX5_locate {E : EV} {post : Option AV → AH → Prop} {h : AH} {l0 : Option Nat} {l1 : Int32} {l2 : Int32} {J39 : AH → Option Nat → Int32 → Int32 → Int32 → Int32 → Prop} (g39 : ∀ X : AX, Cb E X cX5_locate RX5 6 rmX5_locate → Cr E X (some .int) rmX5_locate "locate" post → ∀ (h : AH) (l0 : Option Nat) (l1 : Int32) (l2 : Int32) (l3 : Int32) (l4 : Int32), J39 h l0 l1 l2 l3 l4 → Go E X 6 0 0 39 [(0, aP l0), (1, aI l1), (2, aI l2), (3, aI l3), (4, aI l4)] [] h) (w : PX5_locate_0 E post J39 h l0 l1 l2) : sX5_locate E [aP l0, aI l1, aI l2] h post := Spec.of RX5 rfl rfl (Nat.le_of_ble_eq_true rfl) fun X C D => bX5_locate_0 C D (g39 X C D) w
theorem dX5_lowerToDistance_0 : decode cX5_lowerToDistance 0 = .ok (.aload_n 0, 1) := by decide +kernel
theorem dX5_lowerToDistance_1 : decode cX5_lowerToDistance 1 = .ok (.iload_n 1, 1) := by decide +kernel
theorem dX5_lowerToDistance_2 : decode cX5_lowerToDistance 2 = .ok (.iload_n 2, 1) := by decide +kernel
theorem dX5_lowerToDistance_3 : decode cX5_lowerToDistance 3 = .ok (.invokevirtual 70, 3) := by decide +kernel
theorem dX5_lowerToDistance_6 : decode cX5_lowerToDistance 6 = .ok (.ifCond .eq 11, 3) := by decide +kernel
theorem dX5_lowerToDistance_9 : decode cX5_lowerToDistance 9 = .ok (.aload_n 3, 1) := by decide +kernel
theorem dX5_lowerToDistance_10 : decode cX5_lowerToDistance 10 = .ok (.lconst 0, 1) := by decide +kernel
theorem dX5_lowerToDistance_11 : decode cX5_lowerToDistance 11 = .ok (.lconst 1, 1) := by decide +kernel
theorem dX5_lowerToDistance_12 : decode cX5_lowerToDistance 12 = .ok (.invokevirtual 74, 3) := by decide +kernel
theorem dX5_lowerToDistance_15 : decode cX5_lowerToDistance 15 = .ok (.pop, 1) := by decide +kernel
theorem dX5_lowerToDistance_16 : decode cX5_lowerToDistance 16 = .ok (.return_, 1) := by decide +kernel
theorem dX5_lowerToDistance_17 : decode cX5_lowerToDistance 17 = .ok (.iconst 0, 1) := by decide +kernel
theorem dX5_lowerToDistance_18 : decode cX5_lowerToDistance 18 = .ok (.istore 4, 2) := by decide +kernel
theorem dX5_lowerToDistance_20 : decode cX5_lowerToDistance 20 = .ok (.iload 4, 2) := by decide +kernel
theorem dX5_lowerToDistance_22 : decode cX5_lowerToDistance 22 = .ok (.aload_n 0, 1) := by decide +kernel
theorem dX5_lowerToDistance_23 : decode cX5_lowerToDistance 23 = .ok (.getfield 18, 3) := by decide +kernel
theorem dX5_lowerToDistance_26 : decode cX5_lowerToDistance 26 = .ok (.if_icmp .ge 148, 3) := by decide +kernel
theorem dX5_lowerToDistance_29 : decode cX5_lowerToDistance 29 = .ok (.iload_n 1, 1) := by decide +kernel
theorem dX5_lowerToDistance_30 : decode cX5_lowerToDistance 30 = .ok (.aload_n 0, 1) := by decide +kernel
theorem dX5_lowerToDistance_31 : decode cX5_lowerToDistance 31 = .ok (.iload 4, 2) := by decide +kernel
theorem dX5_lowerToDistance_33 : decode cX5_lowerToDistance 33 = .ok (.invokevirtual 25, 3) := by decide +kernel
theorem dX5_lowerToDistance_36 : decode cX5_lowerToDistance 36 = .ok (.isub, 1) := by decide +kernel
theorem dX5_lowerToDistance_37 : decode cX5_lowerToDistance 37 = .ok (.i2l, 1) := by decide +kernel
theorem dX5_lowerToDistance_38 : decode cX5_lowerToDistance 38 = .ok (.lstore 5, 2) := by decide +kernel
theorem dX5_lowerToDistance_40 : decode cX5_lowerToDistance 40 = .ok (.iload_n 2, 1) := by decide +kernel
theorem dX5_lowerToDistance_41 : decode cX5_lowerToDistance 41 = .ok (.aload_n 0, 1) := by decide +kernel
theorem dX5_lowerToDistance_42 : decode cX5_lowerToDistance 42 = .ok (.iload 4, 2) := by decide +kernel
theorem dX5_lowerToDistance_44 : decode cX5_lowerToDistance 44 = .ok (.invokevirtual 41, 3) := by decide +kernel
theorem dX5_lowerToDistance_47 : decode cX5_lowerToDistance 47 = .ok (.isub, 1) := by decide +kernel
theorem dX5_lowerToDistance_48 : decode cX5_lowerToDistance 48 = .ok (.i2l, 1) := by decide +kernel
theorem dX5_lowerToDistance_49 : decode cX5_lowerToDistance 49 = .ok (.lstore 7, 2) := by decide +kernel
theorem dX5_lowerToDistance_51 : decode cX5_lowerToDistance 51 = .ok (.aload_n 0, 1) := by decide +kernel
theorem dX5_lowerToDistance_52 : decode cX5_lowerToDistance 52 = .ok (.iload 4, 2) := by decide +kernel
theorem dX5_lowerToDistance_54 : decode cX5_lowerToDistance 54 = .ok (.iconst 1, 1) := by decide +kernel
theorem dX5_lowerToDistance_55 : decode cX5_lowerToDistance 55 = .ok (.iadd, 1) := by decide +kernel
theorem dX5_lowerToDistance_56 : decode cX5_lowerToDistance 56 = .ok (.invokevirtual 25, 3) := by decide +kernel
theorem dX5_lowerToDistance_59 : decode cX5_lowerToDistance 59 = .ok (.aload_n 0, 1) := by decide +kernel
theorem dX5_lowerToDistance_60 : decode cX5_lowerToDistance 60 = .ok (.iload 4, 2) := by decide +kernel
theorem dX5_lowerToDistance_62 : decode cX5_lowerToDistance 62 = .ok (.invokevirtual 25, 3) := by decide +kernel
theorem dX5_lowerToDistance_65 : decode cX5_lowerToDistance 65 = .ok (.isub, 1) := by decide +kernel
theorem dX5_lowerToDistance_66 : decode cX5_lowerToDistance 66 = .ok (.i2l, 1) := by decide +kernel
theorem dX5_lowerToDistance_67 : decode cX5_lowerToDistance 67 = .ok (.lstore 9, 2) := by decide +kernel
theorem dX5_lowerToDistance_69 : decode cX5_lowerToDistance 69 = .ok (.aload_n 0, 1) := by decide +kernel
theorem dX5_lowerToDistance_70 : decode cX5_lowerToDistance 70 = .ok (.iload 4, 2) := by decide +kernel
theorem dX5_lowerToDistance_72 : decode cX5_lowerToDistance 72 = .ok (.iconst 1, 1) := by decide +kernel
theorem dX5_lowerToDistance_73 : decode cX5_lowerToDistance 73 = .ok (.iadd, 1) := by decide +kernel
theorem dX5_lowerToDistance_74 : decode cX5_lowerToDistance 74 = .ok (.invokevirtual 41, 3) := by decide +kernel
theorem dX5_lowerToDistance_77 : decode cX5_lowerToDistance 77 = .ok (.aload_n 0, 1) := by decide +kernel
theorem dX5_lowerToDistance_78 : decode cX5_lowerToDistance 78 = .ok (.iload 4, 2) := by decide +kernel
theorem dX5_lowerToDistance_80 : decode cX5_lowerToDistance 80 = .ok (.invokevirtual 41, 3) := by decide +kernel
theorem dX5_lowerToDistance_83 : decode cX5_lowerToDistance 83 = .ok (.isub, 1) := by decide +kernel
theorem dX5_lowerToDistance_84 : decode cX5_lowerToDistance 84 = .ok (.i2l, 1) := by decide +kernel
theorem dX5_lowerToDistance_85 : decode cX5_lowerToDistance 85 = .ok (.lstore 11, 2) := by decide +kernel
theorem dX5_lowerToDistance_87 : decode cX5_lowerToDistance 87 = .ok (.lload 5, 2) := by decide +kernel
theorem dX5_lowerToDistance_89 : decode cX5_lowerToDistance 89 = .ok (.lload 9, 2) := by decide +kernel
theorem dX5_lowerToDistance_91 : decode cX5_lowerToDistance 91 = .ok (.lmul, 1) := by decide +kernel
theorem dX5_lowerToDistance_92 : decode cX5_lowerToDistance 92 = .ok (.lload 7, 2) := by decide +kernel
theorem dX5_lowerToDistance_94 : decode cX5_lowerToDistance 94 = .ok (.lload 11, 2) := by decide +kernel
theorem dX5_lowerToDistance_96 : decode cX5_lowerToDistance 96 = .ok (.lmul, 1) := by decide +kernel
theorem dX5_lowerToDistance_97 : decode cX5_lowerToDistance 97 = .ok (.ladd, 1) := by decide +kernel
theorem dX5_lowerToDistance_98 : decode cX5_lowerToDistance 98 = .ok (.lstore 13, 2) := by decide +kernel
theorem dX5_lowerToDistance_100 : decode cX5_lowerToDistance 100 = .ok (.lload 9, 2) := by decide +kernel
theorem dX5_lowerToDistance_102 : decode cX5_lowerToDistance 102 = .ok (.lload 9, 2) := by decide +kernel
theorem dX5_lowerToDistance_104 : decode cX5_lowerToDistance 104 = .ok (.lmul, 1) := by decide +kernel
theorem dX5_lowerToDistance_105 : decode cX5_lowerToDistance 105 = .ok (.lload 11, 2) := by decide +kernel
theorem dX5_lowerToDistance_107 : decode cX5_lowerToDistance 107 = .ok (.lload 11, 2) := by decide +kernel
theorem dX5_lowerToDistance_109 : decode cX5_lowerToDistance 109 = .ok (.lmul, 1) := by decide +kernel
theorem dX5_lowerToDistance_110 : decode cX5_lowerToDistance 110 = .ok (.ladd, 1) := by decide +kernel
theorem dX5_lowerToDistance_111 : decode cX5_lowerToDistance 111 = .ok (.lstore 15, 2) := by decide +kernel
theorem dX5_lowerToDistance_113 : decode cX5_lowerToDistance 113 = .ok (.aload_n 3, 1) := by decide +kernel
theorem dX5_lowerToDistance_114 : decode cX5_lowerToDistance 114 = .ok (.lload 5, 2) := by decide +kernel
theorem dX5_lowerToDistance_116 : decode cX5_lowerToDistance 116 = .ok (.lload 5, 2) := by decide +kernel
theorem dX5_lowerToDistance_118 : decode cX5_lowerToDistance 118 = .ok (.lmul, 1) := by decide +kernel
theorem dX5_lowerToDistance_119 : decode cX5_lowerToDistance 119 = .ok (.lload 7, 2) := by decide +kernel
theorem dX5_lowerToDistance_121 : decode cX5_lowerToDistance 121 = .ok (.lload 7, 2) := by decide +kernel
theorem dX5_lowerToDistance_123 : decode cX5_lowerToDistance 123 = .ok (.lmul, 1) := by decide +kernel
theorem dX5_lowerToDistance_124 : decode cX5_lowerToDistance 124 = .ok (.ladd, 1) := by decide +kernel
theorem dX5_lowerToDistance_125 : decode cX5_lowerToDistance 125 = .ok (.lconst 1, 1) := by decide +kernel
theorem dX5_lowerToDistance_126 : decode cX5_lowerToDistance 126 = .ok (.invokevirtual 74, 3) := by decide +kernel
theorem dX5_lowerToDistance_129 : decode cX5_lowerToDistance 129 = .ok (.pop, 1) := by decide +kernel
theorem dX5_lowerToDistance_130 : decode cX5_lowerToDistance 130 = .ok (.lload 13, 2) := by decide +kernel
theorem dX5_lowerToDistance_132 : decode cX5_lowerToDistance 132 = .ok (.lconst 0, 1) := by decide +kernel
theorem dX5_lowerToDistance_133 : decode cX5_lowerToDistance 133 = .ok (.lcmp, 1) := by decide +kernel
theorem dX5_lowerToDistance_134 : decode cX5_lowerToDistance 134 = .ok (.ifCond .le 34, 3) := by decide +kernel
theorem dX5_lowerToDistance_137 : decode cX5_lowerToDistance 137 = .ok (.lload 13, 2) := by decide +kernel
theorem dX5_lowerToDistance_139 : decode cX5_lowerToDistance 139 = .ok (.lload 15, 2) := by decide +kernel
theorem dX5_lowerToDistance_141 : decode cX5_lowerToDistance 141 = .ok (.lcmp, 1) := by decide +kernel
theorem dX5_lowerToDistance_142 : decode cX5_lowerToDistance 142 = .ok (.ifCond .ge 26, 3) := by decide +kernel
theorem dX5_lowerToDistance_145 : decode cX5_lowerToDistance 145 = .ok (.aload_n 0, 1) := by decide +kernel
theorem dX5_lowerToDistance_146 : decode cX5_lowerToDistance 146 = .ok (.iload 4, 2) := by decide +kernel
theorem dX5_lowerToDistance_148 : decode cX5_lowerToDistance 148 = .ok (.iload_n 1, 1) := by decide +kernel
theorem dX5_lowerToDistance_149 : decode cX5_lowerToDistance 149 = .ok (.iload_n 2, 1) := by decide +kernel
theorem dX5_lowerToDistance_150 : decode cX5_lowerToDistance 150 = .ok (.invokevirtual 44, 3) := by decide +kernel
theorem dX5_lowerToDistance_153 : decode cX5_lowerToDistance 153 = .ok (.i2l, 1) := by decide +kernel
theorem dX5_lowerToDistance_154 : decode cX5_lowerToDistance 154 = .ok (.lstore 17, 2) := by decide +kernel
theorem dX5_lowerToDistance_156 : decode cX5_lowerToDistance 156 = .ok (.aload_n 3, 1) := by decide +kernel
theorem dX5_lowerToDistance_157 : decode cX5_lowerToDistance 157 = .ok (.lload 17, 2) := by decide +kernel
theorem dX5_lowerToDistance_159 : decode cX5_lowerToDistance 159 = .ok (.lload 17, 2) := by decide +kernel
theorem dX5_lowerToDistance_161 : decode cX5_lowerToDistance 161 = .ok (.lmul, 1) := by decide +kernel
theorem dX5_lowerToDistance_162 : decode cX5_lowerToDistance 162 = .ok (.lload 15, 2) := by decide +kernel
theorem dX5_lowerToDistance_164 : decode cX5_lowerToDistance 164 = .ok (.invokevirtual 74, 3) := by decide +kernel
theorem dX5_lowerToDistance_167 : decode cX5_lowerToDistance 167 = .ok (.pop, 1) := by decide +kernel
theorem dX5_lowerToDistance_168 : decode cX5_lowerToDistance 168 = .ok (.iinc 4 1, 3) := by decide +kernel
theorem dX5_lowerToDistance_171 : decode cX5_lowerToDistance 171 = .ok (.goto (-151), 3) := by decide +kernel
theorem dX5_lowerToDistance_174 : decode cX5_lowerToDistance 174 = .ok (.return_, 1) := by decide +kernel
abbrev rmX5_lowerToDistance : Room := { frames := 3, cells := 0, slots := 0, locals := 120 }
abbrev sX5_lowerToDistance (E : EV) : List AV → AH → (Option AV → AH → Prop) → Prop := Spec E yX5_lowerToDistance cX5_lowerToDistance 19 none rmX5_lowerToDistance
theorem mX5_lowerToDistance : Mt yX5_lowerToDistance cX5_lowerToDistance 19 none 3 := ⟨k478, k5, by decide +kernel⟩
theorem vX5_lowerToDistance : MtV yX5_lowerToDistance 5 := ⟨k476, k477, by decide, (RX5, TX5, 8), rfl, rfl⟩
def PX5_lowerToDistance_20 (E : EV) (post : Option AV → AH → Prop) (J20 : AH → Option Nat → Int32 → Int32 → Option Nat → Int32 → Prop) (h : AH) (l0 : Option Nat) (l1 : Int32) (l2 : Int32) (l3 : Option Nat) (l4 : Int32) : Prop :=
  rdI h l0 5 2 fun x1 => (x1 ≤ l4 → post none h) ∧ (¬ x1 ≤ l4 → CV (sX5_x E) l0 5 [aI l4] h (kI fun x2 h3 => ∀ v4, v4 = (l1 - x2).toInt64 → CV (sX5_y E) l0 5 [aI l4] h3 (kI fun x5 h6 => ∀ v7, v7 = (l2 - x5).toInt64 → CV (sX5_x E) l0 5 [aI (l4 + (1 : Int32))] h6 (kI fun x8 h9 => CV (sX5_x E) l0 5 [aI l4] h9 (kI fun x10 h11 => ∀ v12, v12 = (x8 - x10).toInt64 → CV (sX5_y E) l0 5 [aI (l4 + (1 : Int32))] h11 (kI fun x13 h14 => CV (sX5_y E) l0 5 [aI l4] h14 (kI fun x15 h16 => ∀ v17, v17 = (x13 - x15).toInt64 → ∀ v18, v18 = ((v4 * v12) + (v7 * v17)) → ∀ v19, v19 = ((v12 * v12) + (v17 * v17)) → CV (sX0_lowerTo E) l3 0 [aJ ((v4 * v4) + (v7 * v7)), aJ (1 : Int64)] h16 (kI fun x20 h21 => ((lg_cmp v18 (0 : Int64)) ≤ 0 → J20 h21 l0 l1 l2 l3 (l4 + (1 : Int32))) ∧ (¬ (lg_cmp v18 (0 : Int64)) ≤ 0 → (0 ≤ (lg_cmp v18 v19) → J20 h21 l0 l1 l2 l3 (l4 + (1 : Int32))) ∧ (¬ 0 ≤ (lg_cmp v18 v19) → CV (sX5_side E) l0 5 [aI l4, aI l1, aI l2] h21 (kI fun x22 h23 => CV (sX0_lowerTo E) l3 0 [aJ (x22.toInt64 * x22.toInt64), aJ v19] h23 (kI fun x25 h26 => J20 h26 l0 l1 l2 l3 (l4 + (1 : Int32))))))))))))))
theorem bX5_lowerToDistance_20 {E : EV} {X : AX} {post : Option AV → AH → Prop} (C : Cb E X cX5_lowerToDistance RX5 19 rmX5_lowerToDistance) (D : Cr E X none rmX5_lowerToDistance "lowerToDistance" post) {J20 : AH → Option Nat → Int32 → Int32 → Option Nat → Int32 → Prop} (g20 : ∀ (h : AH) (l0 : Option Nat) (l1 : Int32) (l2 : Int32) (l3 : Option Nat) (l4 : Int32), J20 h l0 l1 l2 l3 l4 → Go E X 19 0 0 20 [(0, aP l0), (1, aI l1), (2, aI l2), (3, aP l3), (4, aI l4)] [] h) {h : AH} {l0 : Option Nat} {l1 : Int32} {l2 : Int32} {l3 : Option Nat} {l4 : Int32} (w : PX5_lowerToDistance_20 E post J20 h l0 l1 l2 l3 l4) : Go E X 19 0 0 20 [(0, aP l0), (1, aI l1), (2, aI l2), (3, aP l3), (4, aI l4)] [] h := by
  unfold PX5_lowerToDistance_20 at w
  refine r_iload C dX5_lowerToDistance_20 4 rfl ?_
  refine r_aload_n C dX5_lowerToDistance_22 rfl 0 rfl ?_
  refine r_getI C fcX5 (f := 2) (by decide) rfl k108 dX5_lowerToDistance_23 (w.mono fun x1 w => ?_)
  refine r_icmp_ge C dX5_lowerToDistance_26 (tgt := 174) rfl (fun hc => ?_) (fun hc => ?_)
  · have w := w.1 hc
    exact r_vret C D rfl (Nat.zero_le _) (Nat.zero_le _) dX5_lowerToDistance_174 w
  · have w := w.2 hc
    refine r_iload_n C dX5_lowerToDistance_29 rfl 1 rfl ?_
    refine r_aload_n C dX5_lowerToDistance_30 rfl 0 rfl ?_
    refine r_iload C dX5_lowerToDistance_31 4 rfl ?_
    refine r_cvI (rm' := rmX5_x) C mX5_x vX5_x k458 [aI l4] [aI l1] rfl rfl (Nat.le_of_ble_eq_true rfl) (by decide) ⟨Nat.zero_le _, Nat.zero_le _⟩ 0 0 rfl rfl dX5_lowerToDistance_33 w (fun x2 h3 w => ?_)
    refine r_isub C dX5_lowerToDistance_36 ?_
    refine r_i2l C dX5_lowerToDistance_37 ?_
    refine r_lstore C dX5_lowerToDistance_38 (by decide) rfl ?_
    have w := w _ rfl
    skip
    refine r_iload_n C dX5_lowerToDistance_40 rfl 3 rfl ?_
    refine r_aload_n C dX5_lowerToDistance_41 rfl 1 rfl ?_
    refine r_iload C dX5_lowerToDistance_42 5 rfl ?_
    refine r_cvI (rm' := rmX5_y) C mX5_y vX5_y k467 [aI l4] [aI l2] rfl rfl (Nat.le_of_ble_eq_true rfl) (by decide) ⟨Nat.zero_le _, Nat.zero_le _⟩ 0 0 rfl rfl dX5_lowerToDistance_44 w (fun x5 h6 w => ?_)
    refine r_isub C dX5_lowerToDistance_47 ?_
    refine r_i2l C dX5_lowerToDistance_48 ?_
    refine r_lstore C dX5_lowerToDistance_49 (by decide) rfl ?_
    have w := w _ rfl
    skip
    refine r_aload_n C dX5_lowerToDistance_51 rfl 2 rfl ?_
    refine r_iload C dX5_lowerToDistance_52 6 rfl ?_
    refine r_iconst (v := 1) C dX5_lowerToDistance_54 rfl ?_
    refine r_iadd C dX5_lowerToDistance_55 ?_
    refine r_cvI (rm' := rmX5_x) C mX5_x vX5_x k458 [aI (l4 + (1 : Int32))] [] rfl rfl (Nat.le_of_ble_eq_true rfl) (by decide) ⟨Nat.zero_le _, Nat.zero_le _⟩ 0 0 rfl rfl dX5_lowerToDistance_56 w (fun x8 h9 w => ?_)
    refine r_aload_n C dX5_lowerToDistance_59 rfl 2 rfl ?_
    refine r_iload C dX5_lowerToDistance_60 6 rfl ?_
    refine r_cvI (rm' := rmX5_x) C mX5_x vX5_x k458 [aI l4] [aI x8] rfl rfl (Nat.le_of_ble_eq_true rfl) (by decide) ⟨Nat.zero_le _, Nat.zero_le _⟩ 0 0 rfl rfl dX5_lowerToDistance_62 w (fun x10 h11 w => ?_)
    refine r_isub C dX5_lowerToDistance_65 ?_
    refine r_i2l C dX5_lowerToDistance_66 ?_
    refine r_lstore C dX5_lowerToDistance_67 (by decide) rfl ?_
    have w := w _ rfl
    skip
    refine r_aload_n C dX5_lowerToDistance_69 rfl 3 rfl ?_
    refine r_iload C dX5_lowerToDistance_70 7 rfl ?_
    refine r_iconst (v := 1) C dX5_lowerToDistance_72 rfl ?_
    refine r_iadd C dX5_lowerToDistance_73 ?_
    refine r_cvI (rm' := rmX5_y) C mX5_y vX5_y k467 [aI (l4 + (1 : Int32))] [] rfl rfl (Nat.le_of_ble_eq_true rfl) (by decide) ⟨Nat.zero_le _, Nat.zero_le _⟩ 0 0 rfl rfl dX5_lowerToDistance_74 w (fun x13 h14 w => ?_)
    refine r_aload_n C dX5_lowerToDistance_77 rfl 3 rfl ?_
    refine r_iload C dX5_lowerToDistance_78 7 rfl ?_
    refine r_cvI (rm' := rmX5_y) C mX5_y vX5_y k467 [aI l4] [aI x13] rfl rfl (Nat.le_of_ble_eq_true rfl) (by decide) ⟨Nat.zero_le _, Nat.zero_le _⟩ 0 0 rfl rfl dX5_lowerToDistance_80 w (fun x15 h16 w => ?_)
    refine r_isub C dX5_lowerToDistance_83 ?_
    refine r_i2l C dX5_lowerToDistance_84 ?_
    refine r_lstore C dX5_lowerToDistance_85 (by decide) rfl ?_
    have w := w _ rfl
    skip
    refine r_lload C dX5_lowerToDistance_87 3 rfl ?_
    refine r_lload C dX5_lowerToDistance_89 1 rfl ?_
    refine r_lmul C dX5_lowerToDistance_91 ?_
    refine r_lload C dX5_lowerToDistance_92 2 rfl ?_
    refine r_lload C dX5_lowerToDistance_94 0 rfl ?_
    refine r_lmul C dX5_lowerToDistance_96 ?_
    refine r_ladd C dX5_lowerToDistance_97 ?_
    refine r_lstore C dX5_lowerToDistance_98 (by decide) rfl ?_
    have w := w _ rfl
    skip
    refine r_lload C dX5_lowerToDistance_100 2 rfl ?_
    refine r_lload C dX5_lowerToDistance_102 2 rfl ?_
    refine r_lmul C dX5_lowerToDistance_104 ?_
    refine r_lload C dX5_lowerToDistance_105 1 rfl ?_
    refine r_lload C dX5_lowerToDistance_107 1 rfl ?_
    refine r_lmul C dX5_lowerToDistance_109 ?_
    refine r_ladd C dX5_lowerToDistance_110 ?_
    refine r_lstore C dX5_lowerToDistance_111 (by decide) rfl ?_
    have w := w _ rfl
    skip
    refine r_aload_n C dX5_lowerToDistance_113 rfl 9 rfl ?_
    refine r_lload C dX5_lowerToDistance_114 5 rfl ?_
    refine r_lload C dX5_lowerToDistance_116 5 rfl ?_
    refine r_lmul C dX5_lowerToDistance_118 ?_
    refine r_lload C dX5_lowerToDistance_119 4 rfl ?_
    refine r_lload C dX5_lowerToDistance_121 4 rfl ?_
    refine r_lmul C dX5_lowerToDistance_123 ?_
    refine r_ladd C dX5_lowerToDistance_124 ?_
    refine r_lconst (v := 1) C dX5_lowerToDistance_125 rfl ?_
    refine r_cvI (rm' := rmX0_lowerTo) C mX0_lowerTo vX0_lowerTo k487 [aJ ((((l1 - x2).toInt64) * ((l1 - x2).toInt64)) + (((l2 - x5).toInt64) * ((l2 - x5).toInt64))), aJ (1 : Int64)] [] rfl rfl (Nat.le_of_ble_eq_true rfl) (by decide) ⟨Nat.zero_le _, Nat.zero_le _⟩ 0 0 rfl rfl dX5_lowerToDistance_126 w (fun x20 h21 w => ?_)
    refine r_pop C dX5_lowerToDistance_129 rfl ?_
    refine r_lload C dX5_lowerToDistance_130 1 rfl ?_
    refine r_lconst (v := 0) C dX5_lowerToDistance_132 rfl ?_
    refine r_lcmp C dX5_lowerToDistance_133 ?_
    refine r_if_le C dX5_lowerToDistance_134 (tgt := 168) rfl (fun hc => ?_) (fun hc => ?_)
    · have w := w.1 hc
      refine r_iinc C dX5_lowerToDistance_168 10 rfl (v := 1) rfl (by decide) rfl ?_
      refine r_goto C dX5_lowerToDistance_171 (tgt := 20) rfl ?_
      exact r_sub [7, 8, 9, 10, 0] rfl (g20 h21 l0 l1 l2 l3 (l4 + (1 : Int32)) w)
    · have w := w.2 hc
      refine r_lload C dX5_lowerToDistance_137 1 rfl ?_
      refine r_lload C dX5_lowerToDistance_139 0 rfl ?_
      refine r_lcmp C dX5_lowerToDistance_141 ?_
      refine r_if_ge C dX5_lowerToDistance_142 (tgt := 168) rfl (fun hc => ?_) (fun hc => ?_)
      · have w := w.1 hc
        refine r_iinc C dX5_lowerToDistance_168 10 rfl (v := 1) rfl (by decide) rfl ?_
        refine r_goto C dX5_lowerToDistance_171 (tgt := 20) rfl ?_
        exact r_sub [7, 8, 9, 10, 0] rfl (g20 h21 l0 l1 l2 l3 (l4 + (1 : Int32)) w)
      · have w := w.2 hc
        refine r_aload_n C dX5_lowerToDistance_145 rfl 6 rfl ?_
        refine r_iload C dX5_lowerToDistance_146 10 rfl ?_
        refine r_iload_n C dX5_lowerToDistance_148 rfl 7 rfl ?_
        refine r_iload_n C dX5_lowerToDistance_149 rfl 8 rfl ?_
        refine r_cvI (rm' := rmX5_side) C mX5_side vX5_side k483 [aI l4, aI l1, aI l2] [] rfl rfl (Nat.le_of_ble_eq_true rfl) (by decide) ⟨Nat.zero_le _, Nat.zero_le _⟩ 0 0 rfl rfl dX5_lowerToDistance_150 w (fun x22 h23 w => ?_)
        refine r_i2l C dX5_lowerToDistance_153 ?_
        refine r_lstore C dX5_lowerToDistance_154 (by decide) rfl ?_
        refine r_aload_n C dX5_lowerToDistance_156 rfl 10 rfl ?_
        refine r_lload C dX5_lowerToDistance_157 0 rfl ?_
        refine r_lload C dX5_lowerToDistance_159 0 rfl ?_
        refine r_lmul C dX5_lowerToDistance_161 ?_
        refine r_lload C dX5_lowerToDistance_162 1 rfl ?_
        refine r_cvI (rm' := rmX0_lowerTo) C mX0_lowerTo vX0_lowerTo k487 [aJ (x22.toInt64 * x22.toInt64), aJ ((((x8 - x10).toInt64) * ((x8 - x10).toInt64)) + (((x13 - x15).toInt64) * ((x13 - x15).toInt64)))] [] rfl rfl (Nat.le_of_ble_eq_true rfl) (by decide) ⟨Nat.zero_le _, Nat.zero_le _⟩ 0 0 rfl rfl dX5_lowerToDistance_164 w (fun x25 h26 w => ?_)
        refine r_pop C dX5_lowerToDistance_167 rfl ?_
        refine r_iinc C dX5_lowerToDistance_168 11 rfl (v := 1) rfl (by decide) rfl ?_
        refine r_goto C dX5_lowerToDistance_171 (tgt := 20) rfl ?_
        exact r_sub [8, 9, 10, 11, 0] rfl (g20 h26 l0 l1 l2 l3 (l4 + (1 : Int32)) w)
theorem lpX5_lowerToDistance_20 {E : EV} {X : AX} {post : Option AV → AH → Prop} (C : Cb E X cX5_lowerToDistance RX5 19 rmX5_lowerToDistance) (D : Cr E X none rmX5_lowerToDistance "lowerToDistance" post) (I : Nat → AH → Option Nat → Int32 → Int32 → Option Nat → Int32 → Prop) (step : ∀ (z : Nat) (h : AH) (l0 : Option Nat) (l1 : Int32) (l2 : Int32) (l3 : Option Nat) (l4 : Int32), I z h l0 l1 l2 l3 l4 → PX5_lowerToDistance_20 E post (fun h l0 l1 l2 l3 l4 => ∃ z', z' < z ∧ I z' h l0 l1 l2 l3 l4) h l0 l1 l2 l3 l4) : ∀ (z : Nat) (h : AH) (l0 : Option Nat) (l1 : Int32) (l2 : Int32) (l3 : Option Nat) (l4 : Int32), I z h l0 l1 l2 l3 l4 → Go E X 19 0 0 20 [(0, aP l0), (1, aI l1), (2, aI l2), (3, aP l3), (4, aI l4)] [] h := by
  intro z
  induction z using Nat.strongRecOn with
  | _ z ih =>
    intro h l0 l1 l2 l3 l4 hI
    exact bX5_lowerToDistance_20 C D (fun h l0 l1 l2 l3 l4 hJ => by obtain ⟨z', hz, hi⟩ := hJ; exact ih z' hz h l0 l1 l2 l3 l4 hi) (step z h l0 l1 l2 l3 l4 hI)
def PX5_lowerToDistance_0 (E : EV) (post : Option AV → AH → Prop) (J20 : AH → Option Nat → Int32 → Int32 → Option Nat → Int32 → Prop) (h : AH) (l0 : Option Nat) (l1 : Int32) (l2 : Int32) (l3 : Option Nat) : Prop :=
  CV (sX5_locate E) l0 5 [aI l1, aI l2] h (kI fun x1 h2 => (x1 = 0 → J20 h2 l0 l1 l2 l3 (0 : Int32)) ∧ (¬ x1 = 0 → CV (sX0_lowerTo E) l3 0 [aJ (0 : Int64), aJ (1 : Int64)] h2 (kI fun x3 h4 => post none h4)))
theorem bX5_lowerToDistance_0 {E : EV} {X : AX} {post : Option AV → AH → Prop} (C : Cb E X cX5_lowerToDistance RX5 19 rmX5_lowerToDistance) (D : Cr E X none rmX5_lowerToDistance "lowerToDistance" post) {J20 : AH → Option Nat → Int32 → Int32 → Option Nat → Int32 → Prop} (g20 : ∀ (h : AH) (l0 : Option Nat) (l1 : Int32) (l2 : Int32) (l3 : Option Nat) (l4 : Int32), J20 h l0 l1 l2 l3 l4 → Go E X 19 0 0 20 [(0, aP l0), (1, aI l1), (2, aI l2), (3, aP l3), (4, aI l4)] [] h) {h : AH} {l0 : Option Nat} {l1 : Int32} {l2 : Int32} {l3 : Option Nat} (w : PX5_lowerToDistance_0 E post J20 h l0 l1 l2 l3) : Go E X 19 0 0 0 [(0, aP l0), (1, aI l1), (2, aI l2), (3, aP l3)] [] h := by
  unfold PX5_lowerToDistance_0 at w
  refine r_aload_n C dX5_lowerToDistance_0 rfl 0 rfl ?_
  refine r_iload_n C dX5_lowerToDistance_1 rfl 1 rfl ?_
  refine r_iload_n C dX5_lowerToDistance_2 rfl 2 rfl ?_
  refine r_cvI (rm' := rmX5_locate) C mX5_locate vX5_locate k479 [aI l1, aI l2] [] rfl rfl (Nat.le_of_ble_eq_true rfl) (by decide) ⟨Nat.zero_le _, Nat.zero_le _⟩ 0 0 rfl rfl dX5_lowerToDistance_3 w (fun x1 h2 w => ?_)
  refine r_if_eq C dX5_lowerToDistance_6 (tgt := 17) rfl (fun hc => ?_) (fun hc => ?_)
  · have w := w.1 hc
    refine r_iconst (v := 0) C dX5_lowerToDistance_17 rfl ?_
    refine r_istore C dX5_lowerToDistance_18 (by decide) rfl ?_
    exact r_sub [1, 2, 3, 4, 0] rfl (g20 h2 l0 l1 l2 l3 (0 : Int32) w)
  · have w := w.2 hc
    refine r_aload_n C dX5_lowerToDistance_9 rfl 3 rfl ?_
    refine r_lconst (v := 0) C dX5_lowerToDistance_10 rfl ?_
    refine r_lconst (v := 1) C dX5_lowerToDistance_11 rfl ?_
    refine r_cvI (rm' := rmX0_lowerTo) C mX0_lowerTo vX0_lowerTo k487 [aJ (0 : Int64), aJ (1 : Int64)] [] rfl rfl (Nat.le_of_ble_eq_true rfl) (by decide) ⟨Nat.zero_le _, Nat.zero_le _⟩ 0 0 rfl rfl dX5_lowerToDistance_12 w (fun x3 h4 w => ?_)
    refine r_pop C dX5_lowerToDistance_15 rfl ?_
    exact r_vret C D rfl (Nat.zero_le _) (Nat.zero_le _) dX5_lowerToDistance_16 w
theorem eX5_lowerToDistance {E : EV} {post : Option AV → AH → Prop} {h : AH} {l0 : Option Nat} {l1 : Int32} {l2 : Int32} {l3 : Option Nat} {J20 : AH → Option Nat → Int32 → Int32 → Option Nat → Int32 → Prop} (g20 : ∀ X : AX, Cb E X cX5_lowerToDistance RX5 19 rmX5_lowerToDistance → Cr E X none rmX5_lowerToDistance "lowerToDistance" post → ∀ (h : AH) (l0 : Option Nat) (l1 : Int32) (l2 : Int32) (l3 : Option Nat) (l4 : Int32), J20 h l0 l1 l2 l3 l4 → Go E X 19 0 0 20 [(0, aP l0), (1, aI l1), (2, aI l2), (3, aP l3), (4, aI l4)] [] h) (w : PX5_lowerToDistance_0 E post J20 h l0 l1 l2 l3) : sX5_lowerToDistance E [aP l0, aI l1, aI l2, aP l3] h post := Spec.of RX5 rfl rfl (Nat.le_of_ble_eq_true rfl) fun X C D => bX5_lowerToDistance_0 C D (g20 X C D) w
theorem dX3_measureGap_0 : decode cX3_measureGap 0 = .ok (.aload_n 0, 1) := by decide +kernel
theorem dX3_measureGap_1 : decode cX3_measureGap 1 = .ok (.getfield 27, 3) := by decide +kernel
theorem dX3_measureGap_4 : decode cX3_measureGap 4 = .ok (.invokevirtual 58, 3) := by decide +kernel
theorem dX3_measureGap_7 : decode cX3_measureGap 7 = .ok (.iconst 0, 1) := by decide +kernel
theorem dX3_measureGap_8 : decode cX3_measureGap 8 = .ok (.istore 5, 2) := by decide +kernel
theorem dX3_measureGap_10 : decode cX3_measureGap 10 = .ok (.iload 5, 2) := by decide +kernel
theorem dX3_measureGap_12 : decode cX3_measureGap 12 = .ok (.aload_n 1, 1) := by decide +kernel
theorem dX3_measureGap_13 : decode cX3_measureGap 13 = .ok (.getfield 41, 3) := by decide +kernel
theorem dX3_measureGap_16 : decode cX3_measureGap 16 = .ok (.if_icmp .ge 52, 3) := by decide +kernel
theorem dX3_measureGap_19 : decode cX3_measureGap 19 = .ok (.iconst 0, 1) := by decide +kernel
theorem dX3_measureGap_20 : decode cX3_measureGap 20 = .ok (.istore 6, 2) := by decide +kernel
theorem dX3_measureGap_22 : decode cX3_measureGap 22 = .ok (.iload 6, 2) := by decide +kernel
theorem dX3_measureGap_24 : decode cX3_measureGap 24 = .ok (.aload_n 2, 1) := by decide +kernel
theorem dX3_measureGap_25 : decode cX3_measureGap 25 = .ok (.getfield 41, 3) := by decide +kernel
theorem dX3_measureGap_28 : decode cX3_measureGap 28 = .ok (.if_icmp .ge 34, 3) := by decide +kernel
theorem dX3_measureGap_31 : decode cX3_measureGap 31 = .ok (.aload_n 0, 1) := by decide +kernel
theorem dX3_measureGap_32 : decode cX3_measureGap 32 = .ok (.aload_n 1, 1) := by decide +kernel
theorem dX3_measureGap_33 : decode cX3_measureGap 33 = .ok (.iload 5, 2) := by decide +kernel
theorem dX3_measureGap_35 : decode cX3_measureGap 35 = .ok (.aload_n 2, 1) := by decide +kernel
theorem dX3_measureGap_36 : decode cX3_measureGap 36 = .ok (.iload 6, 2) := by decide +kernel
theorem dX3_measureGap_38 : decode cX3_measureGap 38 = .ok (.iconst 2, 1) := by decide +kernel
theorem dX3_measureGap_39 : decode cX3_measureGap 39 = .ok (.invokevirtual 45, 3) := by decide +kernel
theorem dX3_measureGap_42 : decode cX3_measureGap 42 = .ok (.aload_n 0, 1) := by decide +kernel
theorem dX3_measureGap_43 : decode cX3_measureGap 43 = .ok (.getfield 21, 3) := by decide +kernel
theorem dX3_measureGap_46 : decode cX3_measureGap 46 = .ok (.iload_n 3, 1) := by decide +kernel
theorem dX3_measureGap_47 : decode cX3_measureGap 47 = .ok (.iload 4, 2) := by decide +kernel
theorem dX3_measureGap_49 : decode cX3_measureGap 49 = .ok (.aload_n 0, 1) := by decide +kernel
theorem dX3_measureGap_50 : decode cX3_measureGap 50 = .ok (.getfield 27, 3) := by decide +kernel
theorem dX3_measureGap_53 : decode cX3_measureGap 53 = .ok (.invokevirtual 61, 3) := by decide +kernel
theorem dX3_measureGap_56 : decode cX3_measureGap 56 = .ok (.iinc 6 1, 3) := by decide +kernel
theorem dX3_measureGap_59 : decode cX3_measureGap 59 = .ok (.goto (-37), 3) := by decide +kernel
theorem dX3_measureGap_62 : decode cX3_measureGap 62 = .ok (.iinc 5 1, 3) := by decide +kernel
theorem dX3_measureGap_65 : decode cX3_measureGap 65 = .ok (.goto (-55), 3) := by decide +kernel
theorem dX3_measureGap_68 : decode cX3_measureGap 68 = .ok (.return_, 1) := by decide +kernel
abbrev rmX3_measureGap : Room := { frames := 4, cells := 0, slots := 0, locals := 160 }
abbrev sX3_measureGap (E : EV) : List AV → AH → (Option AV → AH → Prop) → Prop := Spec E yX3_measureGap cX3_measureGap 7 none rmX3_measureGap
theorem mX3_measureGap : Mt yX3_measureGap cX3_measureGap 7 none 4 := ⟨k415, k7, by decide +kernel⟩
theorem vX3_measureGap : MtV yX3_measureGap 3 := ⟨k413, k414, by decide, (RX3, TX3, 4), rfl, rfl⟩
def PX3_measureGap_22 (E : EV) (post : Option AV → AH → Prop) (J10 : AH → Option Nat → Option Nat → Option Nat → Int32 → Int32 → Int32 → Prop) (J22 : AH → Option Nat → Option Nat → Option Nat → Int32 → Int32 → Int32 → Int32 → Prop) (h : AH) (l0 : Option Nat) (l1 : Option Nat) (l2 : Option Nat) (l3 : Int32) (l4 : Int32) (l5 : Int32) (l6 : Int32) : Prop :=
  rdI h l2 6 3 fun x1 => (x1 ≤ l6 → J10 h l0 l1 l2 l3 l4 (l5 + (1 : Int32))) ∧ (¬ x1 ≤ l6 → CV (sX3_addUp E) l0 3 [aP l1, aI l5, aP l2, aI l6, aI (2 : Int32)] h (kV fun h3 => rdP h3 l0 3 2 fun x4 => rdP h3 l0 3 3 fun x5 => CV (sX5_lowerToDistance E) x4 5 [aI l3, aI l4, aP x5] h3 (kV fun h7 => J22 h7 l0 l1 l2 l3 l4 l5 (l6 + (1 : Int32)))))
theorem bX3_measureGap_22 {E : EV} {X : AX} {post : Option AV → AH → Prop} (C : Cb E X cX3_measureGap RX3 7 rmX3_measureGap) (D : Cr E X none rmX3_measureGap "measureGap" post) {J10 : AH → Option Nat → Option Nat → Option Nat → Int32 → Int32 → Int32 → Prop} (g10 : ∀ (h : AH) (l0 : Option Nat) (l1 : Option Nat) (l2 : Option Nat) (l3 : Int32) (l4 : Int32) (l5 : Int32), J10 h l0 l1 l2 l3 l4 l5 → Go E X 7 0 0 10 [(0, aP l0), (1, aP l1), (2, aP l2), (3, aI l3), (4, aI l4), (5, aI l5)] [] h) {J22 : AH → Option Nat → Option Nat → Option Nat → Int32 → Int32 → Int32 → Int32 → Prop} (g22 : ∀ (h : AH) (l0 : Option Nat) (l1 : Option Nat) (l2 : Option Nat) (l3 : Int32) (l4 : Int32) (l5 : Int32) (l6 : Int32), J22 h l0 l1 l2 l3 l4 l5 l6 → Go E X 7 0 0 22 [(0, aP l0), (1, aP l1), (2, aP l2), (3, aI l3), (4, aI l4), (5, aI l5), (6, aI l6)] [] h) {h : AH} {l0 : Option Nat} {l1 : Option Nat} {l2 : Option Nat} {l3 : Int32} {l4 : Int32} {l5 : Int32} {l6 : Int32} (w : PX3_measureGap_22 E post J10 J22 h l0 l1 l2 l3 l4 l5 l6) : Go E X 7 0 0 22 [(0, aP l0), (1, aP l1), (2, aP l2), (3, aI l3), (4, aI l4), (5, aI l5), (6, aI l6)] [] h := by
  unfold PX3_measureGap_22 at w
  refine r_iload C dX3_measureGap_22 6 rfl ?_
  refine r_aload_n C dX3_measureGap_24 rfl 2 rfl ?_
  refine r_getI C fcX6 (f := 3) (by decide) rfl k32 dX3_measureGap_25 (w.mono fun x1 w => ?_)
  refine r_icmp_ge C dX3_measureGap_28 (tgt := 62) rfl (fun hc => ?_) (fun hc => ?_)
  · have w := w.1 hc
    refine r_iinc C dX3_measureGap_62 5 rfl (v := 1) rfl (by decide) rfl ?_
    refine r_goto C dX3_measureGap_65 (tgt := 10) rfl ?_
    exact r_sub [1, 2, 3, 4, 5, 0] rfl (g10 h l0 l1 l2 l3 l4 (l5 + (1 : Int32)) w)
  · have w := w.2 hc
    refine r_aload_n C dX3_measureGap_31 rfl 0 rfl ?_
    refine r_aload_n C dX3_measureGap_32 rfl 1 rfl ?_
    refine r_iload C dX3_measureGap_33 5 rfl ?_
    refine r_aload_n C dX3_measureGap_35 rfl 2 rfl ?_
    refine r_iload C dX3_measureGap_36 6 rfl ?_
    refine r_iconst (v := 2) C dX3_measureGap_38 rfl ?_
    refine r_cvV (rm' := rmX3_addUp) C mX3_addUp vX3_addUp k424 [aP l1, aI l5, aP l2, aI l6, aI (2 : Int32)] [] rfl rfl (Nat.le_of_ble_eq_true rfl) (by decide) ⟨Nat.zero_le _, Nat.zero_le _⟩ 0 0 rfl rfl dX3_measureGap_39 w (fun h3 w => ?_)
    refine r_aload_n C dX3_measureGap_42 rfl 0 rfl ?_
    refine r_getP C fcX3 (f := 2) (by decide) rfl k185 dX3_measureGap_43 (w.mono fun x4 w => ?_)
    refine r_iload_n C dX3_measureGap_46 rfl 3 rfl ?_
    refine r_iload C dX3_measureGap_47 4 rfl ?_
    refine r_aload_n C dX3_measureGap_49 rfl 0 rfl ?_
    refine r_getP C fcX3 (f := 3) (by decide) rfl k187 dX3_measureGap_50 (w.mono fun x5 w => ?_)
    refine r_cvV (rm' := rmX5_lowerToDistance) C mX5_lowerToDistance vX5_lowerToDistance k475 [aI l3, aI l4, aP x5] [] rfl rfl (Nat.le_of_ble_eq_true rfl) (by decide) ⟨Nat.zero_le _, Nat.zero_le _⟩ 0 0 rfl rfl dX3_measureGap_53 w (fun h7 w => ?_)
    refine r_iinc C dX3_measureGap_56 6 rfl (v := 1) rfl (by decide) rfl ?_
    refine r_goto C dX3_measureGap_59 (tgt := 22) rfl ?_
    exact r_sub [1, 2, 3, 4, 5, 6, 0] rfl (g22 h7 l0 l1 l2 l3 l4 l5 (l6 + (1 : Int32)) w)
theorem lpX3_measureGap_22 {E : EV} {X : AX} {post : Option AV → AH → Prop} (C : Cb E X cX3_measureGap RX3 7 rmX3_measureGap) (D : Cr E X none rmX3_measureGap "measureGap" post) {J10 : AH → Option Nat → Option Nat → Option Nat → Int32 → Int32 → Int32 → Prop} (g10 : ∀ (h : AH) (l0 : Option Nat) (l1 : Option Nat) (l2 : Option Nat) (l3 : Int32) (l4 : Int32) (l5 : Int32), J10 h l0 l1 l2 l3 l4 l5 → Go E X 7 0 0 10 [(0, aP l0), (1, aP l1), (2, aP l2), (3, aI l3), (4, aI l4), (5, aI l5)] [] h) (I : Nat → AH → Option Nat → Option Nat → Option Nat → Int32 → Int32 → Int32 → Int32 → Prop) (step : ∀ (z : Nat) (h : AH) (l0 : Option Nat) (l1 : Option Nat) (l2 : Option Nat) (l3 : Int32) (l4 : Int32) (l5 : Int32) (l6 : Int32), I z h l0 l1 l2 l3 l4 l5 l6 → PX3_measureGap_22 E post J10 (fun h l0 l1 l2 l3 l4 l5 l6 => ∃ z', z' < z ∧ I z' h l0 l1 l2 l3 l4 l5 l6) h l0 l1 l2 l3 l4 l5 l6) : ∀ (z : Nat) (h : AH) (l0 : Option Nat) (l1 : Option Nat) (l2 : Option Nat) (l3 : Int32) (l4 : Int32) (l5 : Int32) (l6 : Int32), I z h l0 l1 l2 l3 l4 l5 l6 → Go E X 7 0 0 22 [(0, aP l0), (1, aP l1), (2, aP l2), (3, aI l3), (4, aI l4), (5, aI l5), (6, aI l6)] [] h := by
  intro z
  induction z using Nat.strongRecOn with
  | _ z ih =>
    intro h l0 l1 l2 l3 l4 l5 l6 hI
    exact bX3_measureGap_22 C D g10 (fun h l0 l1 l2 l3 l4 l5 l6 hJ => by obtain ⟨z', hz, hi⟩ := hJ; exact ih z' hz h l0 l1 l2 l3 l4 l5 l6 hi) (step z h l0 l1 l2 l3 l4 l5 l6 hI)
def PX3_measureGap_10 (E : EV) (post : Option AV → AH → Prop) (J22 : AH → Option Nat → Option Nat → Option Nat → Int32 → Int32 → Int32 → Int32 → Prop) (h : AH) (l0 : Option Nat) (l1 : Option Nat) (l2 : Option Nat) (l3 : Int32) (l4 : Int32) (l5 : Int32) : Prop :=
  rdI h l1 6 3 fun x1 => (x1 ≤ l5 → post none h) ∧ (¬ x1 ≤ l5 → J22 h l0 l1 l2 l3 l4 l5 (0 : Int32))
theorem bX3_measureGap_10 {E : EV} {X : AX} {post : Option AV → AH → Prop} (C : Cb E X cX3_measureGap RX3 7 rmX3_measureGap) (D : Cr E X none rmX3_measureGap "measureGap" post) {J22 : AH → Option Nat → Option Nat → Option Nat → Int32 → Int32 → Int32 → Int32 → Prop} (g22 : ∀ (h : AH) (l0 : Option Nat) (l1 : Option Nat) (l2 : Option Nat) (l3 : Int32) (l4 : Int32) (l5 : Int32) (l6 : Int32), J22 h l0 l1 l2 l3 l4 l5 l6 → Go E X 7 0 0 22 [(0, aP l0), (1, aP l1), (2, aP l2), (3, aI l3), (4, aI l4), (5, aI l5), (6, aI l6)] [] h) {h : AH} {l0 : Option Nat} {l1 : Option Nat} {l2 : Option Nat} {l3 : Int32} {l4 : Int32} {l5 : Int32} (w : PX3_measureGap_10 E post J22 h l0 l1 l2 l3 l4 l5) : Go E X 7 0 0 10 [(0, aP l0), (1, aP l1), (2, aP l2), (3, aI l3), (4, aI l4), (5, aI l5)] [] h := by
  unfold PX3_measureGap_10 at w
  refine r_iload C dX3_measureGap_10 5 rfl ?_
  refine r_aload_n C dX3_measureGap_12 rfl 1 rfl ?_
  refine r_getI C fcX6 (f := 3) (by decide) rfl k32 dX3_measureGap_13 (w.mono fun x1 w => ?_)
  refine r_icmp_ge C dX3_measureGap_16 (tgt := 68) rfl (fun hc => ?_) (fun hc => ?_)
  · have w := w.1 hc
    exact r_vret C D rfl (Nat.zero_le _) (Nat.zero_le _) dX3_measureGap_68 w
  · have w := w.2 hc
    refine r_iconst (v := 0) C dX3_measureGap_19 rfl ?_
    refine r_istore C dX3_measureGap_20 (by decide) rfl ?_
    exact r_sub [1, 2, 3, 4, 5, 6, 0] rfl (g22 h l0 l1 l2 l3 l4 l5 (0 : Int32) w)
def PX3_measureGap_0 (E : EV) (post : Option AV → AH → Prop) (J10 : AH → Option Nat → Option Nat → Option Nat → Int32 → Int32 → Int32 → Prop) (h : AH) (l0 : Option Nat) (l1 : Option Nat) (l2 : Option Nat) (l3 : Int32) (l4 : Int32) : Prop :=
  rdP h l0 3 3 fun x1 => CV (sX0_setInfinite E) x1 0 [] h (kV fun h3 => J10 h3 l0 l1 l2 l3 l4 (0 : Int32))
theorem bX3_measureGap_0 {E : EV} {X : AX} {post : Option AV → AH → Prop} (C : Cb E X cX3_measureGap RX3 7 rmX3_measureGap) (D : Cr E X none rmX3_measureGap "measureGap" post) {J10 : AH → Option Nat → Option Nat → Option Nat → Int32 → Int32 → Int32 → Prop} (g10 : ∀ (h : AH) (l0 : Option Nat) (l1 : Option Nat) (l2 : Option Nat) (l3 : Int32) (l4 : Int32) (l5 : Int32), J10 h l0 l1 l2 l3 l4 l5 → Go E X 7 0 0 10 [(0, aP l0), (1, aP l1), (2, aP l2), (3, aI l3), (4, aI l4), (5, aI l5)] [] h) {h : AH} {l0 : Option Nat} {l1 : Option Nat} {l2 : Option Nat} {l3 : Int32} {l4 : Int32} (w : PX3_measureGap_0 E post J10 h l0 l1 l2 l3 l4) : Go E X 7 0 0 0 [(0, aP l0), (1, aP l1), (2, aP l2), (3, aI l3), (4, aI l4)] [] h := by
  unfold PX3_measureGap_0 at w
  refine r_aload_n C dX3_measureGap_0 rfl 0 rfl ?_
  refine r_getP C fcX3 (f := 3) (by decide) rfl k187 dX3_measureGap_1 (w.mono fun x1 w => ?_)
  refine r_cvV (rm' := rmX0_setInfinite) C mX0_setInfinite vX0_setInfinite k416 [] [] rfl rfl (Nat.le_of_ble_eq_true rfl) (by decide) ⟨Nat.zero_le _, Nat.zero_le _⟩ 0 0 rfl rfl dX3_measureGap_4 w (fun h3 w => ?_)
  refine r_iconst (v := 0) C dX3_measureGap_7 rfl ?_
  refine r_istore C dX3_measureGap_8 (by decide) rfl ?_
  exact r_sub [1, 2, 3, 4, 5, 0] rfl (g10 h3 l0 l1 l2 l3 l4 (0 : Int32) w)
theorem eX3_measureGap {E : EV} {post : Option AV → AH → Prop} {h : AH} {l0 : Option Nat} {l1 : Option Nat} {l2 : Option Nat} {l3 : Int32} {l4 : Int32} {J10 : AH → Option Nat → Option Nat → Option Nat → Int32 → Int32 → Int32 → Prop} (g10 : ∀ X : AX, Cb E X cX3_measureGap RX3 7 rmX3_measureGap → Cr E X none rmX3_measureGap "measureGap" post → ∀ (h : AH) (l0 : Option Nat) (l1 : Option Nat) (l2 : Option Nat) (l3 : Int32) (l4 : Int32) (l5 : Int32), J10 h l0 l1 l2 l3 l4 l5 → Go E X 7 0 0 10 [(0, aP l0), (1, aP l1), (2, aP l2), (3, aI l3), (4, aI l4), (5, aI l5)] [] h) (w : PX3_measureGap_0 E post J10 h l0 l1 l2 l3 l4) : sX3_measureGap E [aP l0, aP l1, aP l2, aI l3, aI l4] h post := Spec.of RX3 rfl rfl (Nat.le_of_ble_eq_true rfl) fun X C D => bX3_measureGap_0 C D (g10 X C D) w
theorem dX3_relation_0 : decode cX3_relation 0 = .ok (.iconst 0, 1) := by decide +kernel
theorem dX3_relation_1 : decode cX3_relation 1 = .ok (.istore 5, 2) := by decide +kernel
theorem dX3_relation_3 : decode cX3_relation 3 = .ok (.iconst 0, 1) := by decide +kernel
theorem dX3_relation_4 : decode cX3_relation 4 = .ok (.istore 6, 2) := by decide +kernel
theorem dX3_relation_6 : decode cX3_relation 6 = .ok (.iload 6, 2) := by decide +kernel
theorem dX3_relation_8 : decode cX3_relation 8 = .ok (.aload_n 1, 1) := by decide +kernel
theorem dX3_relation_9 : decode cX3_relation 9 = .ok (.getfield 41, 3) := by decide +kernel
theorem dX3_relation_12 : decode cX3_relation 12 = .ok (.if_icmp .ge 55, 3) := by decide +kernel
theorem dX3_relation_15 : decode cX3_relation 15 = .ok (.iconst 0, 1) := by decide +kernel
theorem dX3_relation_16 : decode cX3_relation 16 = .ok (.istore 7, 2) := by decide +kernel
theorem dX3_relation_18 : decode cX3_relation 18 = .ok (.iload 7, 2) := by decide +kernel
theorem dX3_relation_20 : decode cX3_relation 20 = .ok (.aload_n 2, 1) := by decide +kernel
theorem dX3_relation_21 : decode cX3_relation 21 = .ok (.getfield 41, 3) := by decide +kernel
theorem dX3_relation_24 : decode cX3_relation 24 = .ok (.if_icmp .ge 37, 3) := by decide +kernel
theorem dX3_relation_27 : decode cX3_relation 27 = .ok (.aload_n 0, 1) := by decide +kernel
theorem dX3_relation_28 : decode cX3_relation 28 = .ok (.aload_n 1, 1) := by decide +kernel
theorem dX3_relation_29 : decode cX3_relation 29 = .ok (.iload 6, 2) := by decide +kernel
theorem dX3_relation_31 : decode cX3_relation 31 = .ok (.aload_n 2, 1) := by decide +kernel
theorem dX3_relation_32 : decode cX3_relation 32 = .ok (.iload 7, 2) := by decide +kernel
theorem dX3_relation_34 : decode cX3_relation 34 = .ok (.iconst 2, 1) := by decide +kernel
theorem dX3_relation_35 : decode cX3_relation 35 = .ok (.invokevirtual 45, 3) := by decide +kernel
theorem dX3_relation_38 : decode cX3_relation 38 = .ok (.iload 5, 2) := by decide +kernel
theorem dX3_relation_40 : decode cX3_relation 40 = .ok (.aload_n 0, 1) := by decide +kernel
theorem dX3_relation_41 : decode cX3_relation 41 = .ok (.getfield 21, 3) := by decide +kernel
theorem dX3_relation_44 : decode cX3_relation 44 = .ok (.iload_n 3, 1) := by decide +kernel
theorem dX3_relation_45 : decode cX3_relation 45 = .ok (.iload 4, 2) := by decide +kernel
theorem dX3_relation_47 : decode cX3_relation 47 = .ok (.invokevirtual 49, 3) := by decide +kernel
theorem dX3_relation_50 : decode cX3_relation 50 = .ok (.invokestatic 53, 3) := by decide +kernel
theorem dX3_relation_53 : decode cX3_relation 53 = .ok (.istore 5, 2) := by decide +kernel
theorem dX3_relation_55 : decode cX3_relation 55 = .ok (.iinc 7 1, 3) := by decide +kernel
theorem dX3_relation_58 : decode cX3_relation 58 = .ok (.goto (-40), 3) := by decide +kernel
theorem dX3_relation_61 : decode cX3_relation 61 = .ok (.iinc 6 1, 3) := by decide +kernel
theorem dX3_relation_64 : decode cX3_relation 64 = .ok (.goto (-58), 3) := by decide +kernel
theorem dX3_relation_67 : decode cX3_relation 67 = .ok (.iload 5, 2) := by decide +kernel
theorem dX3_relation_69 : decode cX3_relation 69 = .ok (.ireturn, 1) := by decide +kernel
abbrev rmX3_relation : Room := { frames := 4, cells := 0, slots := 0, locals := 160 }
abbrev sX3_relation (E : EV) : List AV → AH → (Option AV → AH → Prop) → Prop := Spec E yX3_relation cX3_relation 8 (some .int) rmX3_relation
theorem mX3_relation : Mt yX3_relation cX3_relation 8 (some .int) 4 := ⟨k555, k7, by decide +kernel⟩
theorem vX3_relation : MtV yX3_relation 3 := ⟨k553, k554, by decide, (RX3, TX3, 4), rfl, rfl⟩
def PX3_relation_18 (E : EV) (post : Option AV → AH → Prop) (J6 : AH → Option Nat → Option Nat → Option Nat → Int32 → Int32 → Int32 → Int32 → Prop) (J18 : AH → Option Nat → Option Nat → Option Nat → Int32 → Int32 → Int32 → Int32 → Int32 → Prop) (h : AH) (l0 : Option Nat) (l1 : Option Nat) (l2 : Option Nat) (l3 : Int32) (l4 : Int32) (l5 : Int32) (l6 : Int32) (l7 : Int32) : Prop :=
  rdI h l2 6 3 fun x1 => (x1 ≤ l7 → J6 h l0 l1 l2 l3 l4 l5 (l6 + (1 : Int32))) ∧ (¬ x1 ≤ l7 → CV (sX3_addUp E) l0 3 [aP l1, aI l6, aP l2, aI l7, aI (2 : Int32)] h (kV fun h3 => rdP h3 l0 3 2 fun x4 => CV (sX5_locate E) x4 5 [aI l3, aI l4] h3 (kI fun x5 h6 => ∀ v7, v7 = (if l5 < x5 then x5 else l5) → J18 h6 l0 l1 l2 l3 l4 v7 l6 (l7 + (1 : Int32)))))
theorem bX3_relation_18 {E : EV} {X : AX} {post : Option AV → AH → Prop} (C : Cb E X cX3_relation RX3 8 rmX3_relation) (D : Cr E X (some .int) rmX3_relation "relation" post) {J6 : AH → Option Nat → Option Nat → Option Nat → Int32 → Int32 → Int32 → Int32 → Prop} (g6 : ∀ (h : AH) (l0 : Option Nat) (l1 : Option Nat) (l2 : Option Nat) (l3 : Int32) (l4 : Int32) (l5 : Int32) (l6 : Int32), J6 h l0 l1 l2 l3 l4 l5 l6 → Go E X 8 0 0 6 [(0, aP l0), (1, aP l1), (2, aP l2), (3, aI l3), (4, aI l4), (5, aI l5), (6, aI l6)] [] h) {J18 : AH → Option Nat → Option Nat → Option Nat → Int32 → Int32 → Int32 → Int32 → Int32 → Prop} (g18 : ∀ (h : AH) (l0 : Option Nat) (l1 : Option Nat) (l2 : Option Nat) (l3 : Int32) (l4 : Int32) (l5 : Int32) (l6 : Int32) (l7 : Int32), J18 h l0 l1 l2 l3 l4 l5 l6 l7 → Go E X 8 0 0 18 [(0, aP l0), (1, aP l1), (2, aP l2), (3, aI l3), (4, aI l4), (5, aI l5), (6, aI l6), (7, aI l7)] [] h) {h : AH} {l0 : Option Nat} {l1 : Option Nat} {l2 : Option Nat} {l3 : Int32} {l4 : Int32} {l5 : Int32} {l6 : Int32} {l7 : Int32} (w : PX3_relation_18 E post J6 J18 h l0 l1 l2 l3 l4 l5 l6 l7) : Go E X 8 0 0 18 [(0, aP l0), (1, aP l1), (2, aP l2), (3, aI l3), (4, aI l4), (5, aI l5), (6, aI l6), (7, aI l7)] [] h := by
  unfold PX3_relation_18 at w
  refine r_iload C dX3_relation_18 7 rfl ?_
  refine r_aload_n C dX3_relation_20 rfl 2 rfl ?_
  refine r_getI C fcX6 (f := 3) (by decide) rfl k32 dX3_relation_21 (w.mono fun x1 w => ?_)
  refine r_icmp_ge C dX3_relation_24 (tgt := 61) rfl (fun hc => ?_) (fun hc => ?_)
  · have w := w.1 hc
    refine r_iinc C dX3_relation_61 6 rfl (v := 1) rfl (by decide) rfl ?_
    refine r_goto C dX3_relation_64 (tgt := 6) rfl ?_
    exact r_sub [1, 2, 3, 4, 5, 6, 0] rfl (g6 h l0 l1 l2 l3 l4 l5 (l6 + (1 : Int32)) w)
  · have w := w.2 hc
    refine r_aload_n C dX3_relation_27 rfl 0 rfl ?_
    refine r_aload_n C dX3_relation_28 rfl 1 rfl ?_
    refine r_iload C dX3_relation_29 6 rfl ?_
    refine r_aload_n C dX3_relation_31 rfl 2 rfl ?_
    refine r_iload C dX3_relation_32 7 rfl ?_
    refine r_iconst (v := 2) C dX3_relation_34 rfl ?_
    refine r_cvV (rm' := rmX3_addUp) C mX3_addUp vX3_addUp k424 [aP l1, aI l6, aP l2, aI l7, aI (2 : Int32)] [] rfl rfl (Nat.le_of_ble_eq_true rfl) (by decide) ⟨Nat.zero_le _, Nat.zero_le _⟩ 0 0 rfl rfl dX3_relation_35 w (fun h3 w => ?_)
    refine r_iload C dX3_relation_38 5 rfl ?_
    refine r_aload_n C dX3_relation_40 rfl 0 rfl ?_
    refine r_getP C fcX3 (f := 2) (by decide) rfl k185 dX3_relation_41 (w.mono fun x4 w => ?_)
    refine r_iload_n C dX3_relation_44 rfl 3 rfl ?_
    refine r_iload C dX3_relation_45 4 rfl ?_
    refine r_cvI (rm' := rmX5_locate) C mX5_locate vX5_locate k556 [aI l3, aI l4] [aI l5] rfl rfl (Nat.le_of_ble_eq_true rfl) (by decide) ⟨Nat.zero_le _, Nat.zero_le _⟩ 0 0 rfl rfl dX3_relation_47 w (fun x5 h6 w => ?_)
    refine r_mmax C k557 k546 k12 k547 (by decide) (Nat.le_of_ble_eq_true rfl) (Nat.zero_le _) (Nat.zero_le _) dX3_relation_50 ?_
    have w := w _ rfl
    generalize (if l5 < x5 then x5 else l5) = v7 at w ⊢
    refine r_istore C dX3_relation_53 (by decide) rfl ?_
    refine r_iinc C dX3_relation_55 7 rfl (v := 1) rfl (by decide) rfl ?_
    refine r_goto C dX3_relation_58 (tgt := 18) rfl ?_
    exact r_sub [2, 3, 4, 5, 6, 1, 7, 0] rfl (g18 h6 l0 l1 l2 l3 l4 v7 l6 (l7 + (1 : Int32)) w)
theorem lpX3_relation_18 {E : EV} {X : AX} {post : Option AV → AH → Prop} (C : Cb E X cX3_relation RX3 8 rmX3_relation) (D : Cr E X (some .int) rmX3_relation "relation" post) {J6 : AH → Option Nat → Option Nat → Option Nat → Int32 → Int32 → Int32 → Int32 → Prop} (g6 : ∀ (h : AH) (l0 : Option Nat) (l1 : Option Nat) (l2 : Option Nat) (l3 : Int32) (l4 : Int32) (l5 : Int32) (l6 : Int32), J6 h l0 l1 l2 l3 l4 l5 l6 → Go E X 8 0 0 6 [(0, aP l0), (1, aP l1), (2, aP l2), (3, aI l3), (4, aI l4), (5, aI l5), (6, aI l6)] [] h) (I : Nat → AH → Option Nat → Option Nat → Option Nat → Int32 → Int32 → Int32 → Int32 → Int32 → Prop) (step : ∀ (z : Nat) (h : AH) (l0 : Option Nat) (l1 : Option Nat) (l2 : Option Nat) (l3 : Int32) (l4 : Int32) (l5 : Int32) (l6 : Int32) (l7 : Int32), I z h l0 l1 l2 l3 l4 l5 l6 l7 → PX3_relation_18 E post J6 (fun h l0 l1 l2 l3 l4 l5 l6 l7 => ∃ z', z' < z ∧ I z' h l0 l1 l2 l3 l4 l5 l6 l7) h l0 l1 l2 l3 l4 l5 l6 l7) : ∀ (z : Nat) (h : AH) (l0 : Option Nat) (l1 : Option Nat) (l2 : Option Nat) (l3 : Int32) (l4 : Int32) (l5 : Int32) (l6 : Int32) (l7 : Int32), I z h l0 l1 l2 l3 l4 l5 l6 l7 → Go E X 8 0 0 18 [(0, aP l0), (1, aP l1), (2, aP l2), (3, aI l3), (4, aI l4), (5, aI l5), (6, aI l6), (7, aI l7)] [] h := by
  intro z
  induction z using Nat.strongRecOn with
  | _ z ih =>
    intro h l0 l1 l2 l3 l4 l5 l6 l7 hI
    exact bX3_relation_18 C D g6 (fun h l0 l1 l2 l3 l4 l5 l6 l7 hJ => by obtain ⟨z', hz, hi⟩ := hJ; exact ih z' hz h l0 l1 l2 l3 l4 l5 l6 l7 hi) (step z h l0 l1 l2 l3 l4 l5 l6 l7 hI)
def PX3_relation_6 (E : EV) (post : Option AV → AH → Prop) (J18 : AH → Option Nat → Option Nat → Option Nat → Int32 → Int32 → Int32 → Int32 → Int32 → Prop) (h : AH) (l0 : Option Nat) (l1 : Option Nat) (l2 : Option Nat) (l3 : Int32) (l4 : Int32) (l5 : Int32) (l6 : Int32) : Prop :=
  rdI h l1 6 3 fun x1 => (x1 ≤ l6 → post (some (aI l5)) h) ∧ (¬ x1 ≤ l6 → J18 h l0 l1 l2 l3 l4 l5 l6 (0 : Int32))
theorem bX3_relation_6 {E : EV} {X : AX} {post : Option AV → AH → Prop} (C : Cb E X cX3_relation RX3 8 rmX3_relation) (D : Cr E X (some .int) rmX3_relation "relation" post) {J18 : AH → Option Nat → Option Nat → Option Nat → Int32 → Int32 → Int32 → Int32 → Int32 → Prop} (g18 : ∀ (h : AH) (l0 : Option Nat) (l1 : Option Nat) (l2 : Option Nat) (l3 : Int32) (l4 : Int32) (l5 : Int32) (l6 : Int32) (l7 : Int32), J18 h l0 l1 l2 l3 l4 l5 l6 l7 → Go E X 8 0 0 18 [(0, aP l0), (1, aP l1), (2, aP l2), (3, aI l3), (4, aI l4), (5, aI l5), (6, aI l6), (7, aI l7)] [] h) {h : AH} {l0 : Option Nat} {l1 : Option Nat} {l2 : Option Nat} {l3 : Int32} {l4 : Int32} {l5 : Int32} {l6 : Int32} (w : PX3_relation_6 E post J18 h l0 l1 l2 l3 l4 l5 l6) : Go E X 8 0 0 6 [(0, aP l0), (1, aP l1), (2, aP l2), (3, aI l3), (4, aI l4), (5, aI l5), (6, aI l6)] [] h := by
  unfold PX3_relation_6 at w
  refine r_iload C dX3_relation_6 6 rfl ?_
  refine r_aload_n C dX3_relation_8 rfl 1 rfl ?_
  refine r_getI C fcX6 (f := 3) (by decide) rfl k32 dX3_relation_9 (w.mono fun x1 w => ?_)
  refine r_icmp_ge C dX3_relation_12 (tgt := 67) rfl (fun hc => ?_) (fun hc => ?_)
  · have w := w.1 hc
    refine r_iload C dX3_relation_67 5 rfl ?_
    exact r_iret C D rfl (Nat.zero_le _) (Nat.zero_le _) dX3_relation_69 w
  · have w := w.2 hc
    refine r_iconst (v := 0) C dX3_relation_15 rfl ?_
    refine r_istore C dX3_relation_16 (by decide) rfl ?_
    exact r_sub [1, 2, 3, 4, 5, 6, 7, 0] rfl (g18 h l0 l1 l2 l3 l4 l5 l6 (0 : Int32) w)
def PX3_relation_0 (E : EV) (post : Option AV → AH → Prop) (J6 : AH → Option Nat → Option Nat → Option Nat → Int32 → Int32 → Int32 → Int32 → Prop) (h : AH) (l0 : Option Nat) (l1 : Option Nat) (l2 : Option Nat) (l3 : Int32) (l4 : Int32) : Prop :=
  J6 h l0 l1 l2 l3 l4 (0 : Int32) (0 : Int32)
theorem bX3_relation_0 {E : EV} {X : AX} {post : Option AV → AH → Prop} (C : Cb E X cX3_relation RX3 8 rmX3_relation) (D : Cr E X (some .int) rmX3_relation "relation" post) {J6 : AH → Option Nat → Option Nat → Option Nat → Int32 → Int32 → Int32 → Int32 → Prop} (g6 : ∀ (h : AH) (l0 : Option Nat) (l1 : Option Nat) (l2 : Option Nat) (l3 : Int32) (l4 : Int32) (l5 : Int32) (l6 : Int32), J6 h l0 l1 l2 l3 l4 l5 l6 → Go E X 8 0 0 6 [(0, aP l0), (1, aP l1), (2, aP l2), (3, aI l3), (4, aI l4), (5, aI l5), (6, aI l6)] [] h) {h : AH} {l0 : Option Nat} {l1 : Option Nat} {l2 : Option Nat} {l3 : Int32} {l4 : Int32} (w : PX3_relation_0 E post J6 h l0 l1 l2 l3 l4) : Go E X 8 0 0 0 [(0, aP l0), (1, aP l1), (2, aP l2), (3, aI l3), (4, aI l4)] [] h := by
  unfold PX3_relation_0 at w
  refine r_iconst (v := 0) C dX3_relation_0 rfl ?_
  refine r_istore C dX3_relation_1 (by decide) rfl ?_
  refine r_iconst (v := 0) C dX3_relation_3 rfl ?_
  refine r_istore C dX3_relation_4 (by decide) rfl ?_
  exact r_sub [2, 3, 4, 5, 6, 1, 0] rfl (g6 h l0 l1 l2 l3 l4 (0 : Int32) (0 : Int32) w)
theorem eX3_relation {E : EV} {post : Option AV → AH → Prop} {h : AH} {l0 : Option Nat} {l1 : Option Nat} {l2 : Option Nat} {l3 : Int32} {l4 : Int32} {J6 : AH → Option Nat → Option Nat → Option Nat → Int32 → Int32 → Int32 → Int32 → Prop} (g6 : ∀ X : AX, Cb E X cX3_relation RX3 8 rmX3_relation → Cr E X (some .int) rmX3_relation "relation" post → ∀ (h : AH) (l0 : Option Nat) (l1 : Option Nat) (l2 : Option Nat) (l3 : Int32) (l4 : Int32) (l5 : Int32) (l6 : Int32), J6 h l0 l1 l2 l3 l4 l5 l6 → Go E X 8 0 0 6 [(0, aP l0), (1, aP l1), (2, aP l2), (3, aI l3), (4, aI l4), (5, aI l5), (6, aI l6)] [] h) (w : PX3_relation_0 E post J6 h l0 l1 l2 l3 l4) : sX3_relation E [aP l0, aP l1, aP l2, aI l3, aI l4] h post := Spec.of RX3 rfl rfl (Nat.le_of_ble_eq_true rfl) fun X C D => bX3_relation_0 C D (g6 X C D) w
theorem dX4_obstacle_0 : decode cX4_obstacle 0 = .ok (.iload_n 1, 1) := by decide +kernel
theorem dX4_obstacle_1 : decode cX4_obstacle 1 = .ok (.ifCond .lt 21, 3) := by decide +kernel
theorem dX4_obstacle_4 : decode cX4_obstacle 4 = .ok (.iload_n 1, 1) := by decide +kernel
theorem dX4_obstacle_5 : decode cX4_obstacle 5 = .ok (.aload_n 0, 1) := by decide +kernel
theorem dX4_obstacle_6 : decode cX4_obstacle 6 = .ok (.getfield 25, 3) := by decide +kernel
theorem dX4_obstacle_9 : decode cX4_obstacle 9 = .ok (.arraylength, 1) := by decide +kernel
theorem dX4_obstacle_10 : decode cX4_obstacle 10 = .ok (.if_icmp .ge 12, 3) := by decide +kernel
theorem dX4_obstacle_13 : decode cX4_obstacle 13 = .ok (.aload_n 0, 1) := by decide +kernel
theorem dX4_obstacle_14 : decode cX4_obstacle 14 = .ok (.getfield 25, 3) := by decide +kernel
theorem dX4_obstacle_17 : decode cX4_obstacle 17 = .ok (.iload_n 1, 1) := by decide +kernel
theorem dX4_obstacle_18 : decode cX4_obstacle 18 = .ok (.aaload, 1) := by decide +kernel
theorem dX4_obstacle_19 : decode cX4_obstacle 19 = .ok (.goto 4, 3) := by decide +kernel
theorem dX4_obstacle_22 : decode cX4_obstacle 22 = .ok (.aconst_null, 1) := by decide +kernel
theorem dX4_obstacle_23 : decode cX4_obstacle 23 = .ok (.areturn, 1) := by decide +kernel
abbrev rmX4_obstacle : Room := { frames := 0, cells := 0, slots := 0, locals := 0 }
abbrev sX4_obstacle (E : EV) : List AV → AH → (Option AV → AH → Prop) → Prop := Spec E yX4_obstacle cX4_obstacle 2 (some (.object "NestingPlanner$Polygon")) rmX4_obstacle
theorem mX4_obstacle : Mt yX4_obstacle cX4_obstacle 2 (some (.object "NestingPlanner$Polygon")) 1 := ⟨k652, k9, by decide +kernel⟩
theorem vX4_obstacle : MtV yX4_obstacle 4 := ⟨k651, kp10, by decide, (RX4, TX4, 10), rfl, rfl⟩
def PX4_obstacle_0 (E : EV) (post : Option AV → AH → Prop) (h : AH) (l0 : Option Nat) (l1 : Int32) : Prop :=
  (l1 < 0 → post (some (aP none)) h) ∧ (¬ l1 < 0 → rdP h l0 4 2 fun x1 => alenP h x1 12 fun x2 => (x2 ≤ l1 → post (some (aP none)) h) ∧ (¬ x2 ≤ l1 → rdP h l0 4 2 fun x3 => aldP h x3 12 l1 fun x4 => post (some (aP x4)) h))
theorem bX4_obstacle_0 {E : EV} {X : AX} {post : Option AV → AH → Prop} (C : Cb E X cX4_obstacle RX4 2 rmX4_obstacle) (D : Cr E X (some (.object "NestingPlanner$Polygon")) rmX4_obstacle "obstacle" post) {h : AH} {l0 : Option Nat} {l1 : Int32} (w : PX4_obstacle_0 E post h l0 l1) : Go E X 2 0 0 0 [(0, aP l0), (1, aI l1)] [] h := by
  unfold PX4_obstacle_0 at w
  refine r_iload_n C dX4_obstacle_0 rfl 1 rfl ?_
  refine r_if_lt C dX4_obstacle_1 (tgt := 22) rfl (fun hc => ?_) (fun hc => ?_)
  · have w := w.1 hc
    refine r_null C dX4_obstacle_22 ?_
    exact r_aret C D rfl (Nat.zero_le _) (Nat.zero_le _) dX4_obstacle_23 w
  · have w := w.2 hc
    refine r_iload_n C dX4_obstacle_4 rfl 1 rfl ?_
    refine r_aload_n C dX4_obstacle_5 rfl 0 rfl ?_
    refine r_getP C fcX4 (f := 2) (by decide) rfl k211 dX4_obstacle_6 (w.mono fun x1 w => ?_)
    refine r_alenP 12 (by decide) 2 rfl C dX4_obstacle_9 (w.mono fun x2 w => ?_)
    refine r_icmp_ge C dX4_obstacle_10 (tgt := 22) rfl (fun hc => ?_) (fun hc => ?_)
    · have w := w.1 hc
      refine r_null C dX4_obstacle_22 ?_
      exact r_aret C D rfl (Nat.zero_le _) (Nat.zero_le _) dX4_obstacle_23 w
    · have w := w.2 hc
      refine r_aload_n C dX4_obstacle_13 rfl 0 rfl ?_
      refine r_getP C fcX4 (f := 2) (by decide) rfl k211 dX4_obstacle_14 (w.mono fun x3 w => ?_)
      refine r_iload_n C dX4_obstacle_17 rfl 1 rfl ?_
      refine r_aald 12 (by decide) 2 rfl C dX4_obstacle_18 (w.mono fun x4 w => ?_)
      refine r_goto C dX4_obstacle_19 (tgt := 23) rfl ?_
      exact r_aret C D rfl (Nat.zero_le _) (Nat.zero_le _) dX4_obstacle_23 w
theorem eX4_obstacle {E : EV} {post : Option AV → AH → Prop} {h : AH} {l0 : Option Nat} {l1 : Int32} (w : PX4_obstacle_0 E post h l0 l1) : sX4_obstacle E [aP l0, aI l1] h post := Spec.of RX4 rfl rfl (Nat.le_of_ble_eq_true rfl) fun X C D => bX4_obstacle_0 C D w
theorem dX4_isFree_0 : decode cX4_isFree 0 = .ok (.iload_n 1, 1) := by decide +kernel
theorem dX4_isFree_1 : decode cX4_isFree 1 = .ok (.aload_n 0, 1) := by decide +kernel
theorem dX4_isFree_2 : decode cX4_isFree 2 = .ok (.getfield 35, 3) := by decide +kernel
theorem dX4_isFree_5 : decode cX4_isFree 5 = .ok (.if_icmp .lt 27, 3) := by decide +kernel
theorem dX4_isFree_8 : decode cX4_isFree 8 = .ok (.iload_n 1, 1) := by decide +kernel
theorem dX4_isFree_9 : decode cX4_isFree 9 = .ok (.aload_n 0, 1) := by decide +kernel
theorem dX4_isFree_10 : decode cX4_isFree 10 = .ok (.getfield 48, 3) := by decide +kernel
theorem dX4_isFree_13 : decode cX4_isFree 13 = .ok (.if_icmp .gt 19, 3) := by decide +kernel
theorem dX4_isFree_16 : decode cX4_isFree 16 = .ok (.iload_n 2, 1) := by decide +kernel
theorem dX4_isFree_17 : decode cX4_isFree 17 = .ok (.aload_n 0, 1) := by decide +kernel
theorem dX4_isFree_18 : decode cX4_isFree 18 = .ok (.getfield 39, 3) := by decide +kernel
theorem dX4_isFree_21 : decode cX4_isFree 21 = .ok (.if_icmp .lt 11, 3) := by decide +kernel
theorem dX4_isFree_24 : decode cX4_isFree 24 = .ok (.iload_n 2, 1) := by decide +kernel
theorem dX4_isFree_25 : decode cX4_isFree 25 = .ok (.aload_n 0, 1) := by decide +kernel
theorem dX4_isFree_26 : decode cX4_isFree 26 = .ok (.getfield 55, 3) := by decide +kernel
theorem dX4_isFree_29 : decode cX4_isFree 29 = .ok (.if_icmp .le 5, 3) := by decide +kernel
theorem dX4_isFree_32 : decode cX4_isFree 32 = .ok (.iconst 0, 1) := by decide +kernel
theorem dX4_isFree_33 : decode cX4_isFree 33 = .ok (.ireturn, 1) := by decide +kernel
theorem dX4_isFree_34 : decode cX4_isFree 34 = .ok (.iconst 0, 1) := by decide +kernel
theorem dX4_isFree_35 : decode cX4_isFree 35 = .ok (.istore_n 3, 1) := by decide +kernel
theorem dX4_isFree_36 : decode cX4_isFree 36 = .ok (.iload_n 3, 1) := by decide +kernel
theorem dX4_isFree_37 : decode cX4_isFree 37 = .ok (.aload_n 0, 1) := by decide +kernel
theorem dX4_isFree_38 : decode cX4_isFree 38 = .ok (.getfield 56, 3) := by decide +kernel
theorem dX4_isFree_41 : decode cX4_isFree 41 = .ok (.if_icmp .ge 34, 3) := by decide +kernel
theorem dX4_isFree_44 : decode cX4_isFree 44 = .ok (.aload_n 0, 1) := by decide +kernel
theorem dX4_isFree_45 : decode cX4_isFree 45 = .ok (.iload_n 3, 1) := by decide +kernel
theorem dX4_isFree_46 : decode cX4_isFree 46 = .ok (.invokevirtual 85, 3) := by decide +kernel
theorem dX4_isFree_49 : decode cX4_isFree 49 = .ok (.astore 4, 2) := by decide +kernel
theorem dX4_isFree_51 : decode cX4_isFree 51 = .ok (.aload 4, 2) := by decide +kernel
theorem dX4_isFree_53 : decode cX4_isFree 53 = .ok (.ifnull 16, 3) := by decide +kernel
theorem dX4_isFree_56 : decode cX4_isFree 56 = .ok (.aload 4, 2) := by decide +kernel
theorem dX4_isFree_58 : decode cX4_isFree 58 = .ok (.iload_n 1, 1) := by decide +kernel
theorem dX4_isFree_59 : decode cX4_isFree 59 = .ok (.iload_n 2, 1) := by decide +kernel
theorem dX4_isFree_60 : decode cX4_isFree 60 = .ok (.invokevirtual 96, 3) := by decide +kernel
theorem dX4_isFree_63 : decode cX4_isFree 63 = .ok (.iconst 2, 1) := by decide +kernel
theorem dX4_isFree_64 : decode cX4_isFree 64 = .ok (.if_icmp .ne 5, 3) := by decide +kernel
theorem dX4_isFree_67 : decode cX4_isFree 67 = .ok (.iconst 0, 1) := by decide +kernel
theorem dX4_isFree_68 : decode cX4_isFree 68 = .ok (.ireturn, 1) := by decide +kernel
theorem dX4_isFree_69 : decode cX4_isFree 69 = .ok (.iinc 3 1, 3) := by decide +kernel
theorem dX4_isFree_72 : decode cX4_isFree 72 = .ok (.goto (-36), 3) := by decide +kernel
theorem dX4_isFree_75 : decode cX4_isFree 75 = .ok (.iconst 1, 1) := by decide +kernel
theorem dX4_isFree_76 : decode cX4_isFree 76 = .ok (.ireturn, 1) := by decide +kernel
abbrev rmX4_isFree : Room := { frames := 3, cells := 0, slots := 0, locals := 120 }
abbrev sX4_isFree (E : EV) : List AV → AH → (Option AV → AH → Prop) → Prop := Spec E yX4_isFree cX4_isFree 5 (some .boolean) rmX4_isFree
theorem mX4_isFree : Mt yX4_isFree cX4_isFree 5 (some .boolean) 2 := ⟨k661, k9, by decide +kernel⟩
theorem vX4_isFree : MtV yX4_isFree 4 := ⟨k659, k660, by decide, (RX4, TX4, 10), rfl, rfl⟩
def PX4_isFree_36 (E : EV) (post : Option AV → AH → Prop) (J36 : AH → Option Nat → Int32 → Int32 → Int32 → Prop) (h : AH) (l0 : Option Nat) (l1 : Int32) (l2 : Int32) (l3 : Int32) : Prop :=
  rdI h l0 4 3 fun x1 => (x1 ≤ l3 → post (some (aI (1 : Int32))) h) ∧ (¬ x1 ≤ l3 → CV (sX4_obstacle E) l0 4 [aI l3] h (kP fun x2 h3 => (x2 = none → J36 h3 l0 l1 l2 (l3 + (1 : Int32))) ∧ (¬ x2 = none → CV (sX5_locate E) x2 5 [aI l1, aI l2] h3 (kI fun x5 h6 => (¬ x5 = (2 : Int32) → J36 h6 l0 l1 l2 (l3 + (1 : Int32))) ∧ (x5 = (2 : Int32) → post (some (aI (0 : Int32))) h6)))))
theorem bX4_isFree_36 {E : EV} {X : AX} {post : Option AV → AH → Prop} (C : Cb E X cX4_isFree RX4 5 rmX4_isFree) (D : Cr E X (some .boolean) rmX4_isFree "isFree" post) {J36 : AH → Option Nat → Int32 → Int32 → Int32 → Prop} (g36 : ∀ (h : AH) (l0 : Option Nat) (l1 : Int32) (l2 : Int32) (l3 : Int32), J36 h l0 l1 l2 l3 → Go E X 5 0 0 36 [(0, aP l0), (1, aI l1), (2, aI l2), (3, aI l3)] [] h) {h : AH} {l0 : Option Nat} {l1 : Int32} {l2 : Int32} {l3 : Int32} (w : PX4_isFree_36 E post J36 h l0 l1 l2 l3) : Go E X 5 0 0 36 [(0, aP l0), (1, aI l1), (2, aI l2), (3, aI l3)] [] h := by
  unfold PX4_isFree_36 at w
  refine r_iload_n C dX4_isFree_36 rfl 3 rfl ?_
  refine r_aload_n C dX4_isFree_37 rfl 0 rfl ?_
  refine r_getI C fcX4 (f := 3) (by decide) rfl k212 dX4_isFree_38 (w.mono fun x1 w => ?_)
  refine r_icmp_ge C dX4_isFree_41 (tgt := 75) rfl (fun hc => ?_) (fun hc => ?_)
  · have w := w.1 hc
    refine r_iconst (v := 1) C dX4_isFree_75 rfl ?_
    exact r_zret C D rfl (Or.inr rfl) (Nat.zero_le _) (Nat.zero_le _) dX4_isFree_76 w
  · have w := w.2 hc
    refine r_aload_n C dX4_isFree_44 rfl 0 rfl ?_
    refine r_iload_n C dX4_isFree_45 rfl 3 rfl ?_
    refine r_cvP (rm' := rmX4_obstacle) C mX4_obstacle vX4_obstacle k649 [aI l3] [] rfl rfl (Nat.le_of_ble_eq_true rfl) (by decide) ⟨Nat.zero_le _, Nat.zero_le _⟩ 0 0 rfl rfl dX4_isFree_46 w (fun x2 h3 w => ?_)
    refine r_astore C dX4_isFree_49 (by decide) rfl ?_
    refine r_aload C dX4_isFree_51 0 rfl ?_
    refine r_ifnull C dX4_isFree_53 (tgt := 69) rfl (fun hc => ?_) (fun hc => ?_)
    · have w := w.1 hc
      refine r_iinc C dX4_isFree_69 4 rfl (v := 1) rfl (by decide) rfl ?_
      refine r_goto C dX4_isFree_72 (tgt := 36) rfl ?_
      exact r_sub [2, 3, 4, 0] rfl (g36 h3 l0 l1 l2 (l3 + (1 : Int32)) w)
    · have w := w.2 hc
      refine r_aload C dX4_isFree_56 0 rfl ?_
      refine r_iload_n C dX4_isFree_58 rfl 2 rfl ?_
      refine r_iload_n C dX4_isFree_59 rfl 3 rfl ?_
      refine r_cvI (rm' := rmX5_locate) C mX5_locate vX5_locate k662 [aI l1, aI l2] [] rfl rfl (Nat.le_of_ble_eq_true rfl) (by decide) ⟨Nat.zero_le _, Nat.zero_le _⟩ 0 0 rfl rfl dX4_isFree_60 w (fun x5 h6 w => ?_)
      refine r_iconst (v := 2) C dX4_isFree_63 rfl ?_
      refine r_icmp_ne C dX4_isFree_64 (tgt := 69) rfl (fun hc => ?_) (fun hc => ?_)
      · have w := w.1 hc
        refine r_iinc C dX4_isFree_69 4 rfl (v := 1) rfl (by decide) rfl ?_
        refine r_goto C dX4_isFree_72 (tgt := 36) rfl ?_
        exact r_sub [2, 3, 4, 0] rfl (g36 h6 l0 l1 l2 (l3 + (1 : Int32)) w)
      · have w := w.2 hc
        refine r_iconst (v := 0) C dX4_isFree_67 rfl ?_
        exact r_zret C D rfl (Or.inl rfl) (Nat.zero_le _) (Nat.zero_le _) dX4_isFree_68 w
theorem lpX4_isFree_36 {E : EV} {X : AX} {post : Option AV → AH → Prop} (C : Cb E X cX4_isFree RX4 5 rmX4_isFree) (D : Cr E X (some .boolean) rmX4_isFree "isFree" post) (I : Nat → AH → Option Nat → Int32 → Int32 → Int32 → Prop) (step : ∀ (z : Nat) (h : AH) (l0 : Option Nat) (l1 : Int32) (l2 : Int32) (l3 : Int32), I z h l0 l1 l2 l3 → PX4_isFree_36 E post (fun h l0 l1 l2 l3 => ∃ z', z' < z ∧ I z' h l0 l1 l2 l3) h l0 l1 l2 l3) : ∀ (z : Nat) (h : AH) (l0 : Option Nat) (l1 : Int32) (l2 : Int32) (l3 : Int32), I z h l0 l1 l2 l3 → Go E X 5 0 0 36 [(0, aP l0), (1, aI l1), (2, aI l2), (3, aI l3)] [] h := by
  intro z
  induction z using Nat.strongRecOn with
  | _ z ih =>
    intro h l0 l1 l2 l3 hI
    exact bX4_isFree_36 C D (fun h l0 l1 l2 l3 hJ => by obtain ⟨z', hz, hi⟩ := hJ; exact ih z' hz h l0 l1 l2 l3 hi) (step z h l0 l1 l2 l3 hI)
def PX4_isFree_0 (E : EV) (post : Option AV → AH → Prop) (J36 : AH → Option Nat → Int32 → Int32 → Int32 → Prop) (h : AH) (l0 : Option Nat) (l1 : Int32) (l2 : Int32) : Prop :=
  rdI h l0 4 4 fun x1 => (l1 < x1 → post (some (aI (0 : Int32))) h) ∧ (¬ l1 < x1 → rdI h l0 4 6 fun x2 => (x2 < l1 → post (some (aI (0 : Int32))) h) ∧ (¬ x2 < l1 → rdI h l0 4 5 fun x3 => (l2 < x3 → post (some (aI (0 : Int32))) h) ∧ (¬ l2 < x3 → rdI h l0 4 7 fun x4 => (l2 ≤ x4 → J36 h l0 l1 l2 (0 : Int32)) ∧ (¬ l2 ≤ x4 → post (some (aI (0 : Int32))) h))))
theorem bX4_isFree_0 {E : EV} {X : AX} {post : Option AV → AH → Prop} (C : Cb E X cX4_isFree RX4 5 rmX4_isFree) (D : Cr E X (some .boolean) rmX4_isFree "isFree" post) {J36 : AH → Option Nat → Int32 → Int32 → Int32 → Prop} (g36 : ∀ (h : AH) (l0 : Option Nat) (l1 : Int32) (l2 : Int32) (l3 : Int32), J36 h l0 l1 l2 l3 → Go E X 5 0 0 36 [(0, aP l0), (1, aI l1), (2, aI l2), (3, aI l3)] [] h) {h : AH} {l0 : Option Nat} {l1 : Int32} {l2 : Int32} (w : PX4_isFree_0 E post J36 h l0 l1 l2) : Go E X 5 0 0 0 [(0, aP l0), (1, aI l1), (2, aI l2)] [] h := by
  unfold PX4_isFree_0 at w
  refine r_iload_n C dX4_isFree_0 rfl 1 rfl ?_
  refine r_aload_n C dX4_isFree_1 rfl 0 rfl ?_
  refine r_getI C fcX4 (f := 4) (by decide) rfl k213 dX4_isFree_2 (w.mono fun x1 w => ?_)
  refine r_icmp_lt C dX4_isFree_5 (tgt := 32) rfl (fun hc => ?_) (fun hc => ?_)
  · have w := w.1 hc
    refine r_iconst (v := 0) C dX4_isFree_32 rfl ?_
    exact r_zret C D rfl (Or.inl rfl) (Nat.zero_le _) (Nat.zero_le _) dX4_isFree_33 w
  · have w := w.2 hc
    refine r_iload_n C dX4_isFree_8 rfl 1 rfl ?_
    refine r_aload_n C dX4_isFree_9 rfl 0 rfl ?_
    refine r_getI C fcX4 (f := 6) (by decide) rfl k215 dX4_isFree_10 (w.mono fun x2 w => ?_)
    refine r_icmp_gt C dX4_isFree_13 (tgt := 32) rfl (fun hc => ?_) (fun hc => ?_)
    · have w := w.1 hc
      refine r_iconst (v := 0) C dX4_isFree_32 rfl ?_
      exact r_zret C D rfl (Or.inl rfl) (Nat.zero_le _) (Nat.zero_le _) dX4_isFree_33 w
    · have w := w.2 hc
      refine r_iload_n C dX4_isFree_16 rfl 2 rfl ?_
      refine r_aload_n C dX4_isFree_17 rfl 0 rfl ?_
      refine r_getI C fcX4 (f := 5) (by decide) rfl k214 dX4_isFree_18 (w.mono fun x3 w => ?_)
      refine r_icmp_lt C dX4_isFree_21 (tgt := 32) rfl (fun hc => ?_) (fun hc => ?_)
      · have w := w.1 hc
        refine r_iconst (v := 0) C dX4_isFree_32 rfl ?_
        exact r_zret C D rfl (Or.inl rfl) (Nat.zero_le _) (Nat.zero_le _) dX4_isFree_33 w
      · have w := w.2 hc
        refine r_iload_n C dX4_isFree_24 rfl 2 rfl ?_
        refine r_aload_n C dX4_isFree_25 rfl 0 rfl ?_
        refine r_getI C fcX4 (f := 7) (by decide) rfl k216 dX4_isFree_26 (w.mono fun x4 w => ?_)
        refine r_icmp_le C dX4_isFree_29 (tgt := 34) rfl (fun hc => ?_) (fun hc => ?_)
        · have w := w.1 hc
          refine r_iconst (v := 0) C dX4_isFree_34 rfl ?_
          refine r_istore_n C dX4_isFree_35 rfl (by decide) rfl ?_
          exact r_sub [1, 2, 3, 0] rfl (g36 h l0 l1 l2 (0 : Int32) w)
        · have w := w.2 hc
          refine r_iconst (v := 0) C dX4_isFree_32 rfl ?_
          exact r_zret C D rfl (Or.inl rfl) (Nat.zero_le _) (Nat.zero_le _) dX4_isFree_33 w
theorem eX4_isFree {E : EV} {post : Option AV → AH → Prop} {h : AH} {l0 : Option Nat} {l1 : Int32} {l2 : Int32} {J36 : AH → Option Nat → Int32 → Int32 → Int32 → Prop} (g36 : ∀ X : AX, Cb E X cX4_isFree RX4 5 rmX4_isFree → Cr E X (some .boolean) rmX4_isFree "isFree" post → ∀ (h : AH) (l0 : Option Nat) (l1 : Int32) (l2 : Int32) (l3 : Int32), J36 h l0 l1 l2 l3 → Go E X 5 0 0 36 [(0, aP l0), (1, aI l1), (2, aI l2), (3, aI l3)] [] h) (w : PX4_isFree_0 E post J36 h l0 l1 l2) : sX4_isFree E [aP l0, aI l1, aI l2] h post := Spec.of RX4 rfl rfl (Nat.le_of_ble_eq_true rfl) fun X C D => bX4_isFree_0 C D (g36 X C D) w
theorem dX4_countFree_0 : decode cX4_countFree 0 = .ok (.iconst 0, 1) := by decide +kernel
theorem dX4_countFree_1 : decode cX4_countFree 1 = .ok (.istore_n 1, 1) := by decide +kernel
theorem dX4_countFree_2 : decode cX4_countFree 2 = .ok (.aload_n 0, 1) := by decide +kernel
theorem dX4_countFree_3 : decode cX4_countFree 3 = .ok (.getfield 39, 3) := by decide +kernel
theorem dX4_countFree_6 : decode cX4_countFree 6 = .ok (.istore_n 2, 1) := by decide +kernel
theorem dX4_countFree_7 : decode cX4_countFree 7 = .ok (.iload_n 2, 1) := by decide +kernel
theorem dX4_countFree_8 : decode cX4_countFree 8 = .ok (.aload_n 0, 1) := by decide +kernel
theorem dX4_countFree_9 : decode cX4_countFree 9 = .ok (.getfield 55, 3) := by decide +kernel
theorem dX4_countFree_12 : decode cX4_countFree 12 = .ok (.if_icmp .gt 40, 3) := by decide +kernel
theorem dX4_countFree_15 : decode cX4_countFree 15 = .ok (.aload_n 0, 1) := by decide +kernel
theorem dX4_countFree_16 : decode cX4_countFree 16 = .ok (.getfield 35, 3) := by decide +kernel
theorem dX4_countFree_19 : decode cX4_countFree 19 = .ok (.istore_n 3, 1) := by decide +kernel
theorem dX4_countFree_20 : decode cX4_countFree 20 = .ok (.iload_n 3, 1) := by decide +kernel
theorem dX4_countFree_21 : decode cX4_countFree 21 = .ok (.aload_n 0, 1) := by decide +kernel
theorem dX4_countFree_22 : decode cX4_countFree 22 = .ok (.getfield 48, 3) := by decide +kernel
theorem dX4_countFree_25 : decode cX4_countFree 25 = .ok (.if_icmp .gt 21, 3) := by decide +kernel
theorem dX4_countFree_28 : decode cX4_countFree 28 = .ok (.aload_n 0, 1) := by decide +kernel
theorem dX4_countFree_29 : decode cX4_countFree 29 = .ok (.iload_n 3, 1) := by decide +kernel
theorem dX4_countFree_30 : decode cX4_countFree 30 = .ok (.iload_n 2, 1) := by decide +kernel
theorem dX4_countFree_31 : decode cX4_countFree 31 = .ok (.invokevirtual 100, 3) := by decide +kernel
theorem dX4_countFree_34 : decode cX4_countFree 34 = .ok (.ifCond .eq 6, 3) := by decide +kernel
theorem dX4_countFree_37 : decode cX4_countFree 37 = .ok (.iinc 1 1, 3) := by decide +kernel
theorem dX4_countFree_40 : decode cX4_countFree 40 = .ok (.iinc 3 1, 3) := by decide +kernel
theorem dX4_countFree_43 : decode cX4_countFree 43 = .ok (.goto (-23), 3) := by decide +kernel
theorem dX4_countFree_46 : decode cX4_countFree 46 = .ok (.iinc 2 1, 3) := by decide +kernel
theorem dX4_countFree_49 : decode cX4_countFree 49 = .ok (.goto (-42), 3) := by decide +kernel
theorem dX4_countFree_52 : decode cX4_countFree 52 = .ok (.iload_n 1, 1) := by decide +kernel
theorem dX4_countFree_53 : decode cX4_countFree 53 = .ok (.ireturn, 1) := by decide +kernel
abbrev rmX4_countFree : Room := { frames := 4, cells := 0, slots := 0, locals := 160 }
abbrev sX4_countFree (E : EV) : List AV → AH → (Option AV → AH → Prop) → Prop := Spec E yX4_countFree cX4_countFree 4 (some .int) rmX4_countFree
theorem mX4_countFree : Mt yX4_countFree cX4_countFree 4 (some .int) 0 := ⟨k657, k9, by decide +kernel⟩
theorem vX4_countFree : MtV yX4_countFree 4 := ⟨k655, k656, by decide, (RX4, TX4, 10), rfl, rfl⟩
def PX4_countFree_20 (E : EV) (post : Option AV → AH → Prop) (J7 : AH → Option Nat → Int32 → Int32 → Prop) (J20 : AH → Option Nat → Int32 → Int32 → Int32 → Prop) (h : AH) (l0 : Option Nat) (l1 : Int32) (l2 : Int32) (l3 : Int32) : Prop :=
  rdI h l0 4 6 fun x1 => (x1 < l3 → J7 h l0 l1 (l2 + (1 : Int32))) ∧ (¬ x1 < l3 → CV (sX4_isFree E) l0 4 [aI l3, aI l2] h (kI fun x2 h3 => (x2 = 0 → J20 h3 l0 l1 l2 (l3 + (1 : Int32))) ∧ (¬ x2 = 0 → J20 h3 l0 (l1 + (1 : Int32)) l2 (l3 + (1 : Int32)))))
theorem bX4_countFree_20 {E : EV} {X : AX} {post : Option AV → AH → Prop} (C : Cb E X cX4_countFree RX4 4 rmX4_countFree) (D : Cr E X (some .int) rmX4_countFree "countFree" post) {J7 : AH → Option Nat → Int32 → Int32 → Prop} (g7 : ∀ (h : AH) (l0 : Option Nat) (l1 : Int32) (l2 : Int32), J7 h l0 l1 l2 → Go E X 4 0 0 7 [(0, aP l0), (1, aI l1), (2, aI l2)] [] h) {J20 : AH → Option Nat → Int32 → Int32 → Int32 → Prop} (g20 : ∀ (h : AH) (l0 : Option Nat) (l1 : Int32) (l2 : Int32) (l3 : Int32), J20 h l0 l1 l2 l3 → Go E X 4 0 0 20 [(0, aP l0), (1, aI l1), (2, aI l2), (3, aI l3)] [] h) {h : AH} {l0 : Option Nat} {l1 : Int32} {l2 : Int32} {l3 : Int32} (w : PX4_countFree_20 E post J7 J20 h l0 l1 l2 l3) : Go E X 4 0 0 20 [(0, aP l0), (1, aI l1), (2, aI l2), (3, aI l3)] [] h := by
  unfold PX4_countFree_20 at w
  refine r_iload_n C dX4_countFree_20 rfl 3 rfl ?_
  refine r_aload_n C dX4_countFree_21 rfl 0 rfl ?_
  refine r_getI C fcX4 (f := 6) (by decide) rfl k215 dX4_countFree_22 (w.mono fun x1 w => ?_)
  refine r_icmp_gt C dX4_countFree_25 (tgt := 46) rfl (fun hc => ?_) (fun hc => ?_)
  · have w := w.1 hc
    refine r_iinc C dX4_countFree_46 2 rfl (v := 1) rfl (by decide) rfl ?_
    refine r_goto C dX4_countFree_49 (tgt := 7) rfl ?_
    exact r_sub [1, 2, 0] rfl (g7 h l0 l1 (l2 + (1 : Int32)) w)
  · have w := w.2 hc
    refine r_aload_n C dX4_countFree_28 rfl 0 rfl ?_
    refine r_iload_n C dX4_countFree_29 rfl 3 rfl ?_
    refine r_iload_n C dX4_countFree_30 rfl 2 rfl ?_
    refine r_cvI (rm' := rmX4_isFree) C mX4_isFree vX4_isFree k658 [aI l3, aI l2] [] rfl rfl (Nat.le_of_ble_eq_true rfl) (by decide) ⟨Nat.zero_le _, Nat.zero_le _⟩ 0 0 rfl rfl dX4_countFree_31 w (fun x2 h3 w => ?_)
    refine r_if_eq C dX4_countFree_34 (tgt := 40) rfl (fun hc => ?_) (fun hc => ?_)
    · have w := w.1 hc
      refine r_iinc C dX4_countFree_40 3 rfl (v := 1) rfl (by decide) rfl ?_
      refine r_goto C dX4_countFree_43 (tgt := 20) rfl ?_
      exact r_sub [1, 2, 3, 0] rfl (g20 h3 l0 l1 l2 (l3 + (1 : Int32)) w)
    · have w := w.2 hc
      refine r_iinc C dX4_countFree_37 1 rfl (v := 1) rfl (by decide) rfl ?_
      refine r_iinc C dX4_countFree_40 3 rfl (v := 1) rfl (by decide) rfl ?_
      refine r_goto C dX4_countFree_43 (tgt := 20) rfl ?_
      exact r_sub [2, 1, 3, 0] rfl (g20 h3 l0 (l1 + (1 : Int32)) l2 (l3 + (1 : Int32)) w)
theorem lpX4_countFree_20 {E : EV} {X : AX} {post : Option AV → AH → Prop} (C : Cb E X cX4_countFree RX4 4 rmX4_countFree) (D : Cr E X (some .int) rmX4_countFree "countFree" post) {J7 : AH → Option Nat → Int32 → Int32 → Prop} (g7 : ∀ (h : AH) (l0 : Option Nat) (l1 : Int32) (l2 : Int32), J7 h l0 l1 l2 → Go E X 4 0 0 7 [(0, aP l0), (1, aI l1), (2, aI l2)] [] h) (I : Nat → AH → Option Nat → Int32 → Int32 → Int32 → Prop) (step : ∀ (z : Nat) (h : AH) (l0 : Option Nat) (l1 : Int32) (l2 : Int32) (l3 : Int32), I z h l0 l1 l2 l3 → PX4_countFree_20 E post J7 (fun h l0 l1 l2 l3 => ∃ z', z' < z ∧ I z' h l0 l1 l2 l3) h l0 l1 l2 l3) : ∀ (z : Nat) (h : AH) (l0 : Option Nat) (l1 : Int32) (l2 : Int32) (l3 : Int32), I z h l0 l1 l2 l3 → Go E X 4 0 0 20 [(0, aP l0), (1, aI l1), (2, aI l2), (3, aI l3)] [] h := by
  intro z
  induction z using Nat.strongRecOn with
  | _ z ih =>
    intro h l0 l1 l2 l3 hI
    exact bX4_countFree_20 C D g7 (fun h l0 l1 l2 l3 hJ => by obtain ⟨z', hz, hi⟩ := hJ; exact ih z' hz h l0 l1 l2 l3 hi) (step z h l0 l1 l2 l3 hI)
def PX4_countFree_7 (E : EV) (post : Option AV → AH → Prop) (J20 : AH → Option Nat → Int32 → Int32 → Int32 → Prop) (h : AH) (l0 : Option Nat) (l1 : Int32) (l2 : Int32) : Prop :=
  rdI h l0 4 7 fun x1 => (x1 < l2 → post (some (aI l1)) h) ∧ (¬ x1 < l2 → rdI h l0 4 4 fun x2 => J20 h l0 l1 l2 x2)
theorem bX4_countFree_7 {E : EV} {X : AX} {post : Option AV → AH → Prop} (C : Cb E X cX4_countFree RX4 4 rmX4_countFree) (D : Cr E X (some .int) rmX4_countFree "countFree" post) {J20 : AH → Option Nat → Int32 → Int32 → Int32 → Prop} (g20 : ∀ (h : AH) (l0 : Option Nat) (l1 : Int32) (l2 : Int32) (l3 : Int32), J20 h l0 l1 l2 l3 → Go E X 4 0 0 20 [(0, aP l0), (1, aI l1), (2, aI l2), (3, aI l3)] [] h) {h : AH} {l0 : Option Nat} {l1 : Int32} {l2 : Int32} (w : PX4_countFree_7 E post J20 h l0 l1 l2) : Go E X 4 0 0 7 [(0, aP l0), (1, aI l1), (2, aI l2)] [] h := by
  unfold PX4_countFree_7 at w
  refine r_iload_n C dX4_countFree_7 rfl 2 rfl ?_
  refine r_aload_n C dX4_countFree_8 rfl 0 rfl ?_
  refine r_getI C fcX4 (f := 7) (by decide) rfl k216 dX4_countFree_9 (w.mono fun x1 w => ?_)
  refine r_icmp_gt C dX4_countFree_12 (tgt := 52) rfl (fun hc => ?_) (fun hc => ?_)
  · have w := w.1 hc
    refine r_iload_n C dX4_countFree_52 rfl 1 rfl ?_
    exact r_iret C D rfl (Nat.zero_le _) (Nat.zero_le _) dX4_countFree_53 w
  · have w := w.2 hc
    refine r_aload_n C dX4_countFree_15 rfl 0 rfl ?_
    refine r_getI C fcX4 (f := 4) (by decide) rfl k213 dX4_countFree_16 (w.mono fun x2 w => ?_)
    refine r_istore_n C dX4_countFree_19 rfl (by decide) rfl ?_
    exact r_sub [1, 2, 3, 0] rfl (g20 h l0 l1 l2 x2 w)
def PX4_countFree_0 (E : EV) (post : Option AV → AH → Prop) (J7 : AH → Option Nat → Int32 → Int32 → Prop) (h : AH) (l0 : Option Nat) : Prop :=
  rdI h l0 4 5 fun x2 => J7 h l0 (0 : Int32) x2
theorem bX4_countFree_0 {E : EV} {X : AX} {post : Option AV → AH → Prop} (C : Cb E X cX4_countFree RX4 4 rmX4_countFree) (D : Cr E X (some .int) rmX4_countFree "countFree" post) {J7 : AH → Option Nat → Int32 → Int32 → Prop} (g7 : ∀ (h : AH) (l0 : Option Nat) (l1 : Int32) (l2 : Int32), J7 h l0 l1 l2 → Go E X 4 0 0 7 [(0, aP l0), (1, aI l1), (2, aI l2)] [] h) {h : AH} {l0 : Option Nat} (w : PX4_countFree_0 E post J7 h l0) : Go E X 4 0 0 0 [(0, aP l0)] [] h := by
  unfold PX4_countFree_0 at w
  refine r_iconst (v := 0) C dX4_countFree_0 rfl ?_
  refine r_istore_n C dX4_countFree_1 rfl (by decide) rfl ?_
  refine r_aload_n C dX4_countFree_2 rfl 1 rfl ?_
  refine r_getI C fcX4 (f := 5) (by decide) rfl k214 dX4_countFree_3 (w.mono fun x2 w => ?_)
  refine r_istore_n C dX4_countFree_6 rfl (by decide) rfl ?_
  exact r_sub [2, 1, 0] rfl (g7 h l0 (0 : Int32) x2 w)
theorem eX4_countFree {E : EV} {post : Option AV → AH → Prop} {h : AH} {l0 : Option Nat} {J7 : AH → Option Nat → Int32 → Int32 → Prop} (g7 : ∀ X : AX, Cb E X cX4_countFree RX4 4 rmX4_countFree → Cr E X (some .int) rmX4_countFree "countFree" post → ∀ (h : AH) (l0 : Option Nat) (l1 : Int32) (l2 : Int32), J7 h l0 l1 l2 → Go E X 4 0 0 7 [(0, aP l0), (1, aI l1), (2, aI l2)] [] h) (w : PX4_countFree_0 E post J7 h l0) : sX4_countFree E [aP l0] h post := Spec.of RX4 rfl rfl (Nat.le_of_ble_eq_true rfl) fun X C D => bX4_countFree_0 C D (g7 X C D) w
theorem dX4_findBottomLeft_0 : decode cX4_findBottomLeft 0 = .ok (.aload_n 0, 1) := by decide +kernel
theorem dX4_findBottomLeft_1 : decode cX4_findBottomLeft 1 = .ok (.getfield 39, 3) := by decide +kernel
theorem dX4_findBottomLeft_4 : decode cX4_findBottomLeft 4 = .ok (.istore_n 1, 1) := by decide +kernel
theorem dX4_findBottomLeft_5 : decode cX4_findBottomLeft 5 = .ok (.iload_n 1, 1) := by decide +kernel
theorem dX4_findBottomLeft_6 : decode cX4_findBottomLeft 6 = .ok (.aload_n 0, 1) := by decide +kernel
theorem dX4_findBottomLeft_7 : decode cX4_findBottomLeft 7 = .ok (.getfield 55, 3) := by decide +kernel
theorem dX4_findBottomLeft_10 : decode cX4_findBottomLeft 10 = .ok (.if_icmp .gt 49, 3) := by decide +kernel
theorem dX4_findBottomLeft_13 : decode cX4_findBottomLeft 13 = .ok (.aload_n 0, 1) := by decide +kernel
theorem dX4_findBottomLeft_14 : decode cX4_findBottomLeft 14 = .ok (.getfield 35, 3) := by decide +kernel
theorem dX4_findBottomLeft_17 : decode cX4_findBottomLeft 17 = .ok (.istore_n 2, 1) := by decide +kernel
theorem dX4_findBottomLeft_18 : decode cX4_findBottomLeft 18 = .ok (.iload_n 2, 1) := by decide +kernel
theorem dX4_findBottomLeft_19 : decode cX4_findBottomLeft 19 = .ok (.aload_n 0, 1) := by decide +kernel
theorem dX4_findBottomLeft_20 : decode cX4_findBottomLeft 20 = .ok (.getfield 48, 3) := by decide +kernel
theorem dX4_findBottomLeft_23 : decode cX4_findBottomLeft 23 = .ok (.if_icmp .gt 30, 3) := by decide +kernel
theorem dX4_findBottomLeft_26 : decode cX4_findBottomLeft 26 = .ok (.aload_n 0, 1) := by decide +kernel
theorem dX4_findBottomLeft_27 : decode cX4_findBottomLeft 27 = .ok (.iload_n 2, 1) := by decide +kernel
theorem dX4_findBottomLeft_28 : decode cX4_findBottomLeft 28 = .ok (.iload_n 1, 1) := by decide +kernel
theorem dX4_findBottomLeft_29 : decode cX4_findBottomLeft 29 = .ok (.invokevirtual 100, 3) := by decide +kernel
theorem dX4_findBottomLeft_32 : decode cX4_findBottomLeft 32 = .ok (.ifCond .eq 15, 3) := by decide +kernel
theorem dX4_findBottomLeft_35 : decode cX4_findBottomLeft 35 = .ok (.aload_n 0, 1) := by decide +kernel
theorem dX4_findBottomLeft_36 : decode cX4_findBottomLeft 36 = .ok (.iload_n 2, 1) := by decide +kernel
theorem dX4_findBottomLeft_37 : decode cX4_findBottomLeft 37 = .ok (.putfield 104, 3) := by decide +kernel
theorem dX4_findBottomLeft_40 : decode cX4_findBottomLeft 40 = .ok (.aload_n 0, 1) := by decide +kernel
theorem dX4_findBottomLeft_41 : decode cX4_findBottomLeft 41 = .ok (.iload_n 1, 1) := by decide +kernel
theorem dX4_findBottomLeft_42 : decode cX4_findBottomLeft 42 = .ok (.putfield 107, 3) := by decide +kernel
theorem dX4_findBottomLeft_45 : decode cX4_findBottomLeft 45 = .ok (.iconst 1, 1) := by decide +kernel
theorem dX4_findBottomLeft_46 : decode cX4_findBottomLeft 46 = .ok (.ireturn, 1) := by decide +kernel
theorem dX4_findBottomLeft_47 : decode cX4_findBottomLeft 47 = .ok (.iinc 2 1, 3) := by decide +kernel
theorem dX4_findBottomLeft_50 : decode cX4_findBottomLeft 50 = .ok (.goto (-32), 3) := by decide +kernel
theorem dX4_findBottomLeft_53 : decode cX4_findBottomLeft 53 = .ok (.iinc 1 1, 3) := by decide +kernel
theorem dX4_findBottomLeft_56 : decode cX4_findBottomLeft 56 = .ok (.goto (-51), 3) := by decide +kernel
theorem dX4_findBottomLeft_59 : decode cX4_findBottomLeft 59 = .ok (.iconst 0, 1) := by decide +kernel
theorem dX4_findBottomLeft_60 : decode cX4_findBottomLeft 60 = .ok (.ireturn, 1) := by decide +kernel
abbrev rmX4_findBottomLeft : Room := { frames := 4, cells := 0, slots := 0, locals := 160 }
abbrev sX4_findBottomLeft (E : EV) : List AV → AH → (Option AV → AH → Prop) → Prop := Spec E yX4_findBottomLeft cX4_findBottomLeft 3 (some .boolean) rmX4_findBottomLeft
theorem mX4_findBottomLeft : Mt yX4_findBottomLeft cX4_findBottomLeft 3 (some .boolean) 0 := ⟨k814, k9, by decide +kernel⟩
theorem vX4_findBottomLeft : MtV yX4_findBottomLeft 4 := ⟨k812, k813, by decide, (RX4, TX4, 10), rfl, rfl⟩
def PX4_findBottomLeft_18 (E : EV) (post : Option AV → AH → Prop) (J5 : AH → Option Nat → Int32 → Prop) (J18 : AH → Option Nat → Int32 → Int32 → Prop) (h : AH) (l0 : Option Nat) (l1 : Int32) (l2 : Int32) : Prop :=
  rdI h l0 4 6 fun x1 => (x1 < l2 → J5 h l0 (l1 + (1 : Int32))) ∧ (¬ x1 < l2 → CV (sX4_isFree E) l0 4 [aI l2, aI l1] h (kI fun x2 h3 => (x2 = 0 → J18 h3 l0 l1 (l2 + (1 : Int32))) ∧ (¬ x2 = 0 → wr h3 l0 4 8 (aI l2) fun h4 => wr h4 l0 4 9 (aI l1) fun h5 => post (some (aI (1 : Int32))) h5)))
theorem bX4_findBottomLeft_18 {E : EV} {X : AX} {post : Option AV → AH → Prop} (C : Cb E X cX4_findBottomLeft RX4 3 rmX4_findBottomLeft) (D : Cr E X (some .boolean) rmX4_findBottomLeft "findBottomLeft" post) {J5 : AH → Option Nat → Int32 → Prop} (g5 : ∀ (h : AH) (l0 : Option Nat) (l1 : Int32), J5 h l0 l1 → Go E X 3 0 0 5 [(0, aP l0), (1, aI l1)] [] h) {J18 : AH → Option Nat → Int32 → Int32 → Prop} (g18 : ∀ (h : AH) (l0 : Option Nat) (l1 : Int32) (l2 : Int32), J18 h l0 l1 l2 → Go E X 3 0 0 18 [(0, aP l0), (1, aI l1), (2, aI l2)] [] h) {h : AH} {l0 : Option Nat} {l1 : Int32} {l2 : Int32} (w : PX4_findBottomLeft_18 E post J5 J18 h l0 l1 l2) : Go E X 3 0 0 18 [(0, aP l0), (1, aI l1), (2, aI l2)] [] h := by
  unfold PX4_findBottomLeft_18 at w
  refine r_iload_n C dX4_findBottomLeft_18 rfl 2 rfl ?_
  refine r_aload_n C dX4_findBottomLeft_19 rfl 0 rfl ?_
  refine r_getI C fcX4 (f := 6) (by decide) rfl k215 dX4_findBottomLeft_20 (w.mono fun x1 w => ?_)
  refine r_icmp_gt C dX4_findBottomLeft_23 (tgt := 53) rfl (fun hc => ?_) (fun hc => ?_)
  · have w := w.1 hc
    refine r_iinc C dX4_findBottomLeft_53 1 rfl (v := 1) rfl (by decide) rfl ?_
    refine r_goto C dX4_findBottomLeft_56 (tgt := 5) rfl ?_
    exact r_sub [1, 0] rfl (g5 h l0 (l1 + (1 : Int32)) w)
  · have w := w.2 hc
    refine r_aload_n C dX4_findBottomLeft_26 rfl 0 rfl ?_
    refine r_iload_n C dX4_findBottomLeft_27 rfl 2 rfl ?_
    refine r_iload_n C dX4_findBottomLeft_28 rfl 1 rfl ?_
    refine r_cvI (rm' := rmX4_isFree) C mX4_isFree vX4_isFree k658 [aI l2, aI l1] [] rfl rfl (Nat.le_of_ble_eq_true rfl) (by decide) ⟨Nat.zero_le _, Nat.zero_le _⟩ 0 0 rfl rfl dX4_findBottomLeft_29 w (fun x2 h3 w => ?_)
    refine r_if_eq C dX4_findBottomLeft_32 (tgt := 47) rfl (fun hc => ?_) (fun hc => ?_)
    · have w := w.1 hc
      refine r_iinc C dX4_findBottomLeft_47 2 rfl (v := 1) rfl (by decide) rfl ?_
      refine r_goto C dX4_findBottomLeft_50 (tgt := 18) rfl ?_
      exact r_sub [1, 2, 0] rfl (g18 h3 l0 l1 (l2 + (1 : Int32)) w)
    · have w := w.2 hc
      refine r_aload_n C dX4_findBottomLeft_35 rfl 0 rfl ?_
      refine r_iload_n C dX4_findBottomLeft_36 rfl 2 rfl ?_
      refine r_put C fcX4 (f := 8) (by decide) rfl rfl rfl rfl k217 dX4_findBottomLeft_37 (w.mono fun h4 w => ?_)
      refine r_aload_n C dX4_findBottomLeft_40 rfl 0 rfl ?_
      refine r_iload_n C dX4_findBottomLeft_41 rfl 1 rfl ?_
      refine r_put C fcX4 (f := 9) (by decide) rfl rfl rfl rfl k219 dX4_findBottomLeft_42 (w.mono fun h5 w => ?_)
      refine r_iconst (v := 1) C dX4_findBottomLeft_45 rfl ?_
      exact r_zret C D rfl (Or.inr rfl) (Nat.zero_le _) (Nat.zero_le _) dX4_findBottomLeft_46 w
theorem lpX4_findBottomLeft_18 {E : EV} {X : AX} {post : Option AV → AH → Prop} (C : Cb E X cX4_findBottomLeft RX4 3 rmX4_findBottomLeft) (D : Cr E X (some .boolean) rmX4_findBottomLeft "findBottomLeft" post) {J5 : AH → Option Nat → Int32 → Prop} (g5 : ∀ (h : AH) (l0 : Option Nat) (l1 : Int32), J5 h l0 l1 → Go E X 3 0 0 5 [(0, aP l0), (1, aI l1)] [] h) (I : Nat → AH → Option Nat → Int32 → Int32 → Prop) (step : ∀ (z : Nat) (h : AH) (l0 : Option Nat) (l1 : Int32) (l2 : Int32), I z h l0 l1 l2 → PX4_findBottomLeft_18 E post J5 (fun h l0 l1 l2 => ∃ z', z' < z ∧ I z' h l0 l1 l2) h l0 l1 l2) : ∀ (z : Nat) (h : AH) (l0 : Option Nat) (l1 : Int32) (l2 : Int32), I z h l0 l1 l2 → Go E X 3 0 0 18 [(0, aP l0), (1, aI l1), (2, aI l2)] [] h := by
  intro z
  induction z using Nat.strongRecOn with
  | _ z ih =>
    intro h l0 l1 l2 hI
    exact bX4_findBottomLeft_18 C D g5 (fun h l0 l1 l2 hJ => by obtain ⟨z', hz, hi⟩ := hJ; exact ih z' hz h l0 l1 l2 hi) (step z h l0 l1 l2 hI)
def PX4_findBottomLeft_5 (E : EV) (post : Option AV → AH → Prop) (J18 : AH → Option Nat → Int32 → Int32 → Prop) (h : AH) (l0 : Option Nat) (l1 : Int32) : Prop :=
  rdI h l0 4 7 fun x1 => (x1 < l1 → post (some (aI (0 : Int32))) h) ∧ (¬ x1 < l1 → rdI h l0 4 4 fun x2 => J18 h l0 l1 x2)
theorem bX4_findBottomLeft_5 {E : EV} {X : AX} {post : Option AV → AH → Prop} (C : Cb E X cX4_findBottomLeft RX4 3 rmX4_findBottomLeft) (D : Cr E X (some .boolean) rmX4_findBottomLeft "findBottomLeft" post) {J18 : AH → Option Nat → Int32 → Int32 → Prop} (g18 : ∀ (h : AH) (l0 : Option Nat) (l1 : Int32) (l2 : Int32), J18 h l0 l1 l2 → Go E X 3 0 0 18 [(0, aP l0), (1, aI l1), (2, aI l2)] [] h) {h : AH} {l0 : Option Nat} {l1 : Int32} (w : PX4_findBottomLeft_5 E post J18 h l0 l1) : Go E X 3 0 0 5 [(0, aP l0), (1, aI l1)] [] h := by
  unfold PX4_findBottomLeft_5 at w
  refine r_iload_n C dX4_findBottomLeft_5 rfl 1 rfl ?_
  refine r_aload_n C dX4_findBottomLeft_6 rfl 0 rfl ?_
  refine r_getI C fcX4 (f := 7) (by decide) rfl k216 dX4_findBottomLeft_7 (w.mono fun x1 w => ?_)
  refine r_icmp_gt C dX4_findBottomLeft_10 (tgt := 59) rfl (fun hc => ?_) (fun hc => ?_)
  · have w := w.1 hc
    refine r_iconst (v := 0) C dX4_findBottomLeft_59 rfl ?_
    exact r_zret C D rfl (Or.inl rfl) (Nat.zero_le _) (Nat.zero_le _) dX4_findBottomLeft_60 w
  · have w := w.2 hc
    refine r_aload_n C dX4_findBottomLeft_13 rfl 0 rfl ?_
    refine r_getI C fcX4 (f := 4) (by decide) rfl k213 dX4_findBottomLeft_14 (w.mono fun x2 w => ?_)
    refine r_istore_n C dX4_findBottomLeft_17 rfl (by decide) rfl ?_
    exact r_sub [1, 2, 0] rfl (g18 h l0 l1 x2 w)
def PX4_findBottomLeft_0 (E : EV) (post : Option AV → AH → Prop) (J5 : AH → Option Nat → Int32 → Prop) (h : AH) (l0 : Option Nat) : Prop :=
  rdI h l0 4 5 fun x1 => J5 h l0 x1
theorem bX4_findBottomLeft_0 {E : EV} {X : AX} {post : Option AV → AH → Prop} (C : Cb E X cX4_findBottomLeft RX4 3 rmX4_findBottomLeft) (D : Cr E X (some .boolean) rmX4_findBottomLeft "findBottomLeft" post) {J5 : AH → Option Nat → Int32 → Prop} (g5 : ∀ (h : AH) (l0 : Option Nat) (l1 : Int32), J5 h l0 l1 → Go E X 3 0 0 5 [(0, aP l0), (1, aI l1)] [] h) {h : AH} {l0 : Option Nat} (w : PX4_findBottomLeft_0 E post J5 h l0) : Go E X 3 0 0 0 [(0, aP l0)] [] h := by
  unfold PX4_findBottomLeft_0 at w
  refine r_aload_n C dX4_findBottomLeft_0 rfl 0 rfl ?_
  refine r_getI C fcX4 (f := 5) (by decide) rfl k214 dX4_findBottomLeft_1 (w.mono fun x1 w => ?_)
  refine r_istore_n C dX4_findBottomLeft_4 rfl (by decide) rfl ?_
  exact r_sub [1, 0] rfl (g5 h l0 x1 w)
theorem eX4_findBottomLeft {E : EV} {post : Option AV → AH → Prop} {h : AH} {l0 : Option Nat} {J5 : AH → Option Nat → Int32 → Prop} (g5 : ∀ X : AX, Cb E X cX4_findBottomLeft RX4 3 rmX4_findBottomLeft → Cr E X (some .boolean) rmX4_findBottomLeft "findBottomLeft" post → ∀ (h : AH) (l0 : Option Nat) (l1 : Int32), J5 h l0 l1 → Go E X 3 0 0 5 [(0, aP l0), (1, aI l1)] [] h) (w : PX4_findBottomLeft_0 E post J5 h l0) : sX4_findBottomLeft E [aP l0] h post := Spec.of RX4 rfl rfl (Nat.le_of_ble_eq_true rfl) fun X C D => bX4_findBottomLeft_0 C D (g5 X C D) w
theorem dX4_init_0 : decode cX4_init 0 = .ok (.aload_n 0, 1) := by decide +kernel
theorem dX4_init_1 : decode cX4_init 1 = .ok (.invokespecial 3, 3) := by decide +kernel
theorem dX4_init_4 : decode cX4_init 4 = .ok (.aload_n 0, 1) := by decide +kernel
theorem dX4_init_5 : decode cX4_init 5 = .ok (.new 9, 3) := by decide +kernel
theorem dX4_init_8 : decode cX4_init 8 = .ok (.dup, 1) := by decide +kernel
theorem dX4_init_9 : decode cX4_init 9 = .ok (.invokespecial 11, 3) := by decide +kernel
theorem dX4_init_12 : decode cX4_init 12 = .ok (.putfield 12, 3) := by decide +kernel
theorem dX4_init_15 : decode cX4_init 15 = .ok (.aload_n 0, 1) := by decide +kernel
theorem dX4_init_16 : decode cX4_init 16 = .ok (.new 18, 3) := by decide +kernel
theorem dX4_init_19 : decode cX4_init 19 = .ok (.dup, 1) := by decide +kernel
theorem dX4_init_20 : decode cX4_init 20 = .ok (.invokespecial 20, 3) := by decide +kernel
theorem dX4_init_23 : decode cX4_init 23 = .ok (.putfield 21, 3) := by decide +kernel
theorem dX4_init_26 : decode cX4_init 26 = .ok (.aload_n 0, 1) := by decide +kernel
theorem dX4_init_27 : decode cX4_init 27 = .ok (.bipush 72, 2) := by decide +kernel
theorem dX4_init_29 : decode cX4_init 29 = .ok (.anewarray 18, 3) := by decide +kernel
theorem dX4_init_32 : decode cX4_init 32 = .ok (.putfield 25, 3) := by decide +kernel
theorem dX4_init_35 : decode cX4_init 35 = .ok (.iconst 0, 1) := by decide +kernel
theorem dX4_init_36 : decode cX4_init 36 = .ok (.istore_n 1, 1) := by decide +kernel
theorem dX4_init_37 : decode cX4_init 37 = .ok (.iload_n 1, 1) := by decide +kernel
theorem dX4_init_38 : decode cX4_init 38 = .ok (.aload_n 0, 1) := by decide +kernel
theorem dX4_init_39 : decode cX4_init 39 = .ok (.getfield 25, 3) := by decide +kernel
theorem dX4_init_42 : decode cX4_init 42 = .ok (.arraylength, 1) := by decide +kernel
theorem dX4_init_43 : decode cX4_init 43 = .ok (.if_icmp .ge 22, 3) := by decide +kernel
theorem dX4_init_46 : decode cX4_init 46 = .ok (.aload_n 0, 1) := by decide +kernel
theorem dX4_init_47 : decode cX4_init 47 = .ok (.getfield 25, 3) := by decide +kernel
theorem dX4_init_50 : decode cX4_init 50 = .ok (.iload_n 1, 1) := by decide +kernel
theorem dX4_init_51 : decode cX4_init 51 = .ok (.new 18, 3) := by decide +kernel
theorem dX4_init_54 : decode cX4_init 54 = .ok (.dup, 1) := by decide +kernel
theorem dX4_init_55 : decode cX4_init 55 = .ok (.invokespecial 20, 3) := by decide +kernel
theorem dX4_init_58 : decode cX4_init 58 = .ok (.aastore, 1) := by decide +kernel
theorem dX4_init_59 : decode cX4_init 59 = .ok (.iinc 1 1, 3) := by decide +kernel
theorem dX4_init_62 : decode cX4_init 62 = .ok (.goto (-25), 3) := by decide +kernel
theorem dX4_init_65 : decode cX4_init 65 = .ok (.return_, 1) := by decide +kernel
abbrev rmX4_init : Room := { frames := 3, cells := 231, slots := 3422, locals := 120 }
abbrev sX4_init (E : EV) : List AV → AH → (Option AV → AH → Prop) → Prop := Spec E yX4_init cX4_init 2 none rmX4_init
theorem mX4_init : Mt yX4_init cX4_init 2 none 0 := ⟨k202, k9, by decide +kernel⟩
theorem vX4_init : MtI yX4_init := ⟨rfl, k201⟩
def PX4_init_37 (E : EV) (post : Option AV → AH → Prop) (J37 : Nat → Nat → AH → Nat → Int32 → Prop) (k n : Nat) (h : AH) (l0 : Nat) (l1 : Int32) : Prop :=
  rdP h (some l0) 4 2 fun x1 => alenP h x1 12 fun x2 => (x2 ≤ l1 → (k ≤ 231 ∧ n ≤ 3422) ∧ post none h) ∧ (¬ x2 ≤ l1 → rdP h (some l0) 4 2 fun x3 => (k + 1 ≤ 231 ∧ n + 8 ≤ 3422) ∧ (∀ h4, h4 = h ++ [.inr (5, [aP none, aP none, aI 0, aI 0, aI 0, aI 0, aI 0, aI 0])] → ((k + 1) + 2 ≤ 231 ∧ (n + 8) + 36 ≤ 3422) ∧ CS (sX5_init E) [aP (some h.length)] h4 (kV fun h6 => astP h6 x3 12 5 l1 (some h.length) fun h7 => J37 ((k + 1) + 2) ((n + 8) + 36) h7 l0 (l1 + (1 : Int32)))))
theorem bX4_init_37 {E : EV} {X : AX} {post : Option AV → AH → Prop} (C : Cb E X cX4_init RX4 2 rmX4_init) (D : Cr E X none rmX4_init "<init>" post) {J37 : Nat → Nat → AH → Nat → Int32 → Prop} (g37 : ∀ (k n : Nat) (h : AH) (l0 : Nat) (l1 : Int32), J37 k n h l0 l1 → Go E X 2 k n 37 [(0, aP (some l0)), (1, aI l1)] [] h) {k n : Nat} {h : AH} {l0 : Nat} {l1 : Int32} (w : PX4_init_37 E post J37 k n h l0 l1) : Go E X 2 k n 37 [(0, aP (some l0)), (1, aI l1)] [] h := by
  unfold PX4_init_37 at w
  refine r_iload_n C dX4_init_37 rfl 1 rfl ?_
  refine r_aload_n C dX4_init_38 rfl 0 rfl ?_
  refine r_getP C fcX4 (f := 2) (by decide) rfl k211 dX4_init_39 (w.mono fun x1 w => ?_)
  refine r_alenP 12 (by decide) 2 rfl C dX4_init_42 (w.mono fun x2 w => ?_)
  refine r_icmp_ge C dX4_init_43 (tgt := 65) rfl (fun hc => ?_) (fun hc => ?_)
  · have w := w.1 hc
    exact r_vret C D rfl w.1.1 w.1.2 dX4_init_65 w.2
  · have w := w.2 hc
    refine r_aload_n C dX4_init_46 rfl 0 rfl ?_
    refine r_getP C fcX4 (f := 2) (by decide) rfl k211 dX4_init_47 (w.mono fun x3 w => ?_)
    refine r_iload_n C dX4_init_50 rfl 1 rfl ?_
    refine r_new (fs := [aP none, aP none, aI 0, aI 0, aI 0, aI 0, aI 0, aI 0]) C fcX5 rfl df_X5 k206 k101 k5 w.1.1 w.1.2 dX4_init_51 ?_
    have w := w.2 _ rfl
    generalize h ++ [.inr (5, [aP none, aP none, aI 0, aI 0, aI 0, aI 0, aI 0, aI 0])] = h4 at w ⊢
    refine r_dup C dX4_init_54 rfl ?_
    refine r_ciV (rm' := rmX5_init) C mX5_init vX5_init (host := "NestingPlanner") (Or.inr nk207) [] [aP (some h.length), aI l1, aP x3] rfl rfl (Nat.le_of_ble_eq_true rfl) (by decide) w.1 ((k + 1) + 2) ((n + 8) + 36) rfl rfl dX4_init_55 rfl w.2 (fun h6 w => ?_)
    refine r_aast 12 5 (by decide) (by decide) 2 (r := (RX5, TX5, 8)) rfl rfl C dX4_init_58 (w.mono fun h7 w => ?_)
    refine r_iinc C dX4_init_59 1 rfl (v := 1) rfl (by decide) rfl ?_
    refine r_goto C dX4_init_62 (tgt := 37) rfl ?_
    exact r_sub [1, 0] rfl (g37 ((k + 1) + 2) ((n + 8) + 36) h7 l0 (l1 + (1 : Int32)) w)
theorem lpX4_init_37 {E : EV} {X : AX} {post : Option AV → AH → Prop} (C : Cb E X cX4_init RX4 2 rmX4_init) (D : Cr E X none rmX4_init "<init>" post) (I : Nat → Nat → Nat → AH → Nat → Int32 → Prop) (step : ∀ (z : Nat) (k n : Nat) (h : AH) (l0 : Nat) (l1 : Int32), I z k n h l0 l1 → PX4_init_37 E post (fun k n h l0 l1 => ∃ z', z' < z ∧ I z' k n h l0 l1) k n h l0 l1) : ∀ (z : Nat) (k n : Nat) (h : AH) (l0 : Nat) (l1 : Int32), I z k n h l0 l1 → Go E X 2 k n 37 [(0, aP (some l0)), (1, aI l1)] [] h := by
  intro z
  induction z using Nat.strongRecOn with
  | _ z ih =>
    intro k n h l0 l1 hI
    exact bX4_init_37 C D (fun k n h l0 l1 hJ => by obtain ⟨z', hz, hi⟩ := hJ; exact ih z' hz k n h l0 l1 hi) (step z k n h l0 l1 hI)
def PX4_init_0 (E : EV) (post : Option AV → AH → Prop) (J37 : Nat → Nat → AH → Nat → Int32 → Prop) (k n : Nat) (h : AH) (l0 : Nat) : Prop :=
  (k + 1 ≤ 231 ∧ n + 4 ≤ 3422) ∧ (∀ h1, h1 = h ++ [.inr (3, [aP none, aP none, aP none, aP none])] → ((k + 1) + 10 ≤ 231 ∧ (n + 4) + 134 ≤ 3422) ∧ CS (sX3_init E) [aP (some h.length)] h1 (kV fun h3 => wr h3 (some l0) 4 0 (aP (some h.length)) fun h4 => (((k + 1) + 10) + 1 ≤ 231 ∧ ((n + 4) + 134) + 8 ≤ 3422) ∧ (∀ h5, h5 = h4 ++ [.inr (5, [aP none, aP none, aI 0, aI 0, aI 0, aI 0, aI 0, aI 0])] → ((((k + 1) + 10) + 1) + 2 ≤ 231 ∧ (((n + 4) + 134) + 8) + 36 ≤ 3422) ∧ CS (sX5_init E) [aP (some h4.length)] h5 (kV fun h7 => wr h7 (some l0) 4 1 (aP (some h4.length)) fun h8 => (((((k + 1) + 10) + 1) + 2) + 1 ≤ 231 ∧ ((((n + 4) + 134) + 8) + 36) + 72 ≤ 3422) ∧ (∀ h9, h9 = h8 ++ [.inr (12, List.replicate 72 (aP none))] → wr h9 (some l0) 4 2 (aP (some h8.length)) fun h10 => J37 (((((k + 1) + 10) + 1) + 2) + 1) (((((n + 4) + 134) + 8) + 36) + 72) h10 l0 (0 : Int32))))))
theorem bX4_init_0 {E : EV} {X : AX} {post : Option AV → AH → Prop} (C : Cb E X cX4_init RX4 2 rmX4_init) (D : Cr E X none rmX4_init "<init>" post) {J37 : Nat → Nat → AH → Nat → Int32 → Prop} (g37 : ∀ (k n : Nat) (h : AH) (l0 : Nat) (l1 : Int32), J37 k n h l0 l1 → Go E X 2 k n 37 [(0, aP (some l0)), (1, aI l1)] [] h) {k n : Nat} {h : AH} {l0 : Nat} (w : PX4_init_0 E post J37 k n h l0) : Go E X 2 k n 0 [(0, aP (some l0))] [] h := by
  unfold PX4_init_0 at w
  refine r_aload_n C dX4_init_0 rfl 0 rfl ?_
  refine r_objInit C k203 k19 k20 (by decide) (by decide) (Nat.le_of_ble_eq_true rfl) dX4_init_1 ?_
  refine r_aload_n C dX4_init_4 rfl 0 rfl ?_
  refine r_new (fs := [aP none, aP none, aP none, aP none]) C fcX3 rfl df_X3 k204 k161 k7 w.1.1 w.1.2 dX4_init_5 ?_
  have w := w.2 _ rfl
  generalize h ++ [.inr (3, [aP none, aP none, aP none, aP none])] = h1 at w ⊢
  refine r_dup C dX4_init_8 rfl ?_
  refine r_ciV (rm' := rmX3_init) C mX3_init vX3_init (host := "NestingPlanner") (Or.inr nk205) [] [aP (some h.length), aP (some l0)] rfl rfl (Nat.le_of_ble_eq_true rfl) (by decide) w.1 ((k + 1) + 10) ((n + 4) + 134) rfl rfl dX4_init_9 rfl w.2 (fun h3 w => ?_)
  refine r_putF C D fcX4 (f := 0) (by decide) rfl rfl rfl rfl (ft_P _ _) k209 dX4_init_12 (w.mono fun h4 w => ?_)
  refine r_aload_n C dX4_init_15 rfl 0 rfl ?_
  refine r_new (fs := [aP none, aP none, aI 0, aI 0, aI 0, aI 0, aI 0, aI 0]) C fcX5 rfl df_X5 k206 k101 k5 w.1.1 w.1.2 dX4_init_16 ?_
  have w := w.2 _ rfl
  generalize h4 ++ [.inr (5, [aP none, aP none, aI 0, aI 0, aI 0, aI 0, aI 0, aI 0])] = h5 at w ⊢
  refine r_dup C dX4_init_19 rfl ?_
  refine r_ciV (rm' := rmX5_init) C mX5_init vX5_init (host := "NestingPlanner") (Or.inr nk207) [] [aP (some h4.length), aP (some l0)] rfl rfl (Nat.le_of_ble_eq_true rfl) (by decide) w.1 ((((k + 1) + 10) + 1) + 2) ((((n + 4) + 134) + 8) + 36) rfl rfl dX4_init_20 rfl w.2 (fun h7 w => ?_)
  refine r_putF C D fcX4 (f := 1) (by decide) rfl rfl rfl rfl (ft_P _ _) k210 dX4_init_23 (w.mono fun h8 w => ?_)
  refine r_aload_n C dX4_init_26 rfl 0 rfl ?_
  refine r_bipush (v := 72) C dX4_init_27 rfl ?_
  refine r_newaP 12 (by decide) 2 rfl (N' := 72) C (fun _ h => h.2.1) k206 (by decide) rfl (by decide) w.1.1 w.1.2 dX4_init_29 ?_
  have w := w.2 _ rfl
  generalize h8 ++ [.inr (12, List.replicate 72 (aP none))] = h9 at w ⊢
  refine r_putF C D fcX4 (f := 2) (by decide) rfl rfl rfl rfl (ft_A _ _) k211 dX4_init_32 (w.mono fun h10 w => ?_)
  refine r_iconst (v := 0) C dX4_init_35 rfl ?_
  refine r_istore_n C dX4_init_36 rfl (by decide) rfl ?_
  exact r_sub [1, 0] rfl (g37 (((((k + 1) + 10) + 1) + 2) + 1) (((((n + 4) + 134) + 8) + 36) + 72) h10 l0 (0 : Int32) w)
theorem eX4_init {E : EV} {post : Option AV → AH → Prop} {h : AH} {l0 : Nat} {J37 : Nat → Nat → AH → Nat → Int32 → Prop} (g37 : ∀ X : AX, Cb E X cX4_init RX4 2 rmX4_init → Cr E X none rmX4_init "<init>" post → ∀ (k n : Nat) (h : AH) (l0 : Nat) (l1 : Int32), J37 k n h l0 l1 → Go E X 2 k n 37 [(0, aP (some l0)), (1, aI l1)] [] h) (w : PX4_init_0 E post J37 0 0 h l0) : sX4_init E [aP (some l0)] h post := Spec.of RX4 rfl rfl (Nat.le_of_ble_eq_true rfl) fun X C D => bX4_init_0 C D (g37 X C D) w
theorem dX5_setSquare_0 : decode cX5_setSquare 0 = .ok (.aload_n 0, 1) := by decide +kernel
theorem dX5_setSquare_1 : decode cX5_setSquare 1 = .ok (.invokevirtual 48, 3) := by decide +kernel
theorem dX5_setSquare_4 : decode cX5_setSquare 4 = .ok (.aload_n 0, 1) := by decide +kernel
theorem dX5_setSquare_5 : decode cX5_setSquare 5 = .ok (.iload_n 1, 1) := by decide +kernel
theorem dX5_setSquare_6 : decode cX5_setSquare 6 = .ok (.iload_n 3, 1) := by decide +kernel
theorem dX5_setSquare_7 : decode cX5_setSquare 7 = .ok (.isub, 1) := by decide +kernel
theorem dX5_setSquare_8 : decode cX5_setSquare 8 = .ok (.iload_n 2, 1) := by decide +kernel
theorem dX5_setSquare_9 : decode cX5_setSquare 9 = .ok (.iload_n 3, 1) := by decide +kernel
theorem dX5_setSquare_10 : decode cX5_setSquare 10 = .ok (.isub, 1) := by decide +kernel
theorem dX5_setSquare_11 : decode cX5_setSquare 11 = .ok (.invokevirtual 59, 3) := by decide +kernel
theorem dX5_setSquare_14 : decode cX5_setSquare 14 = .ok (.iload_n 3, 1) := by decide +kernel
theorem dX5_setSquare_15 : decode cX5_setSquare 15 = .ok (.ifCond .le 33, 3) := by decide +kernel
theorem dX5_setSquare_18 : decode cX5_setSquare 18 = .ok (.aload_n 0, 1) := by decide +kernel
theorem dX5_setSquare_19 : decode cX5_setSquare 19 = .ok (.iload_n 1, 1) := by decide +kernel
theorem dX5_setSquare_20 : decode cX5_setSquare 20 = .ok (.iload_n 3, 1) := by decide +kernel
theorem dX5_setSquare_21 : decode cX5_setSquare 21 = .ok (.iadd, 1) := by decide +kernel
theorem dX5_setSquare_22 : decode cX5_setSquare 22 = .ok (.iload_n 2, 1) := by decide +kernel
theorem dX5_setSquare_23 : decode cX5_setSquare 23 = .ok (.iload_n 3, 1) := by decide +kernel
theorem dX5_setSquare_24 : decode cX5_setSquare 24 = .ok (.isub, 1) := by decide +kernel
theorem dX5_setSquare_25 : decode cX5_setSquare 25 = .ok (.invokevirtual 59, 3) := by decide +kernel
theorem dX5_setSquare_28 : decode cX5_setSquare 28 = .ok (.aload_n 0, 1) := by decide +kernel
theorem dX5_setSquare_29 : decode cX5_setSquare 29 = .ok (.iload_n 1, 1) := by decide +kernel
theorem dX5_setSquare_30 : decode cX5_setSquare 30 = .ok (.iload_n 3, 1) := by decide +kernel
theorem dX5_setSquare_31 : decode cX5_setSquare 31 = .ok (.iadd, 1) := by decide +kernel
theorem dX5_setSquare_32 : decode cX5_setSquare 32 = .ok (.iload_n 2, 1) := by decide +kernel
theorem dX5_setSquare_33 : decode cX5_setSquare 33 = .ok (.iload_n 3, 1) := by decide +kernel
theorem dX5_setSquare_34 : decode cX5_setSquare 34 = .ok (.iadd, 1) := by decide +kernel
theorem dX5_setSquare_35 : decode cX5_setSquare 35 = .ok (.invokevirtual 59, 3) := by decide +kernel
theorem dX5_setSquare_38 : decode cX5_setSquare 38 = .ok (.aload_n 0, 1) := by decide +kernel
theorem dX5_setSquare_39 : decode cX5_setSquare 39 = .ok (.iload_n 1, 1) := by decide +kernel
theorem dX5_setSquare_40 : decode cX5_setSquare 40 = .ok (.iload_n 3, 1) := by decide +kernel
theorem dX5_setSquare_41 : decode cX5_setSquare 41 = .ok (.isub, 1) := by decide +kernel
theorem dX5_setSquare_42 : decode cX5_setSquare 42 = .ok (.iload_n 2, 1) := by decide +kernel
theorem dX5_setSquare_43 : decode cX5_setSquare 43 = .ok (.iload_n 3, 1) := by decide +kernel
theorem dX5_setSquare_44 : decode cX5_setSquare 44 = .ok (.iadd, 1) := by decide +kernel
theorem dX5_setSquare_45 : decode cX5_setSquare 45 = .ok (.invokevirtual 59, 3) := by decide +kernel
theorem dX5_setSquare_48 : decode cX5_setSquare 48 = .ok (.return_, 1) := by decide +kernel
abbrev rmX5_setSquare : Room := { frames := 2, cells := 0, slots := 0, locals := 80 }
abbrev sX5_setSquare (E : EV) : List AV → AH → (Option AV → AH → Prop) → Prop := Spec E yX5_setSquare cX5_setSquare 4 none rmX5_setSquare
theorem mX5_setSquare : Mt yX5_setSquare cX5_setSquare 4 none 3 := ⟨k646, k5, by decide +kernel⟩
theorem vX5_setSquare : MtV yX5_setSquare 5 := ⟨k644, k645, by decide, (RX5, TX5, 8), rfl, rfl⟩
def PX5_setSquare_0 (E : EV) (post : Option AV → AH → Prop) (h : AH) (l0 : Option Nat) (l1 : Int32) (l2 : Int32) (l3 : Int32) : Prop :=
  CV (sX5_clear E) l0 5 [] h (kV fun h2 => CV (sX5_add E) l0 5 [aI (l1 - l3), aI (l2 - l3)] h2 (kV fun h4 => (l3 ≤ 0 → post none h4) ∧ (¬ l3 ≤ 0 → CV (sX5_add E) l0 5 [aI (l1 + l3), aI (l2 - l3)] h4 (kV fun h6 => CV (sX5_add E) l0 5 [aI (l1 + l3), aI (l2 + l3)] h6 (kV fun h8 => CV (sX5_add E) l0 5 [aI (l1 - l3), aI (l2 + l3)] h8 (kV fun h10 => post none h10))))))
theorem bX5_setSquare_0 {E : EV} {X : AX} {post : Option AV → AH → Prop} (C : Cb E X cX5_setSquare RX5 4 rmX5_setSquare) (D : Cr E X none rmX5_setSquare "setSquare" post) {h : AH} {l0 : Option Nat} {l1 : Int32} {l2 : Int32} {l3 : Int32} (w : PX5_setSquare_0 E post h l0 l1 l2 l3) : Go E X 4 0 0 0 [(0, aP l0), (1, aI l1), (2, aI l2), (3, aI l3)] [] h := by
  unfold PX5_setSquare_0 at w
  refine r_aload_n C dX5_setSquare_0 rfl 0 rfl ?_
  refine r_cvV (rm' := rmX5_clear) C mX5_clear vX5_clear k466 [] [] rfl rfl (Nat.le_of_ble_eq_true rfl) (by decide) ⟨Nat.zero_le _, Nat.zero_le _⟩ 0 0 rfl rfl dX5_setSquare_1 w (fun h2 w => ?_)
  refine r_aload_n C dX5_setSquare_4 rfl 0 rfl ?_
  refine r_iload_n C dX5_setSquare_5 rfl 1 rfl ?_
  refine r_iload_n C dX5_setSquare_6 rfl 3 rfl ?_
  refine r_isub C dX5_setSquare_7 ?_
  refine r_iload_n C dX5_setSquare_8 rfl 2 rfl ?_
  refine r_iload_n C dX5_setSquare_9 rfl 3 rfl ?_
  refine r_isub C dX5_setSquare_10 ?_
  refine r_cvV (rm' := rmX5_add) C mX5_add vX5_add k471 [aI (l1 - l3), aI (l2 - l3)] [] rfl rfl (Nat.le_of_ble_eq_true rfl) (by decide) ⟨Nat.zero_le _, Nat.zero_le _⟩ 0 0 rfl rfl dX5_setSquare_11 w (fun h4 w => ?_)
  refine r_iload_n C dX5_setSquare_14 rfl 3 rfl ?_
  refine r_if_le C dX5_setSquare_15 (tgt := 48) rfl (fun hc => ?_) (fun hc => ?_)
  · have w := w.1 hc
    exact r_vret C D rfl (Nat.zero_le _) (Nat.zero_le _) dX5_setSquare_48 w
  · have w := w.2 hc
    refine r_aload_n C dX5_setSquare_18 rfl 0 rfl ?_
    refine r_iload_n C dX5_setSquare_19 rfl 1 rfl ?_
    refine r_iload_n C dX5_setSquare_20 rfl 3 rfl ?_
    refine r_iadd C dX5_setSquare_21 ?_
    refine r_iload_n C dX5_setSquare_22 rfl 2 rfl ?_
    refine r_iload_n C dX5_setSquare_23 rfl 3 rfl ?_
    refine r_isub C dX5_setSquare_24 ?_
    refine r_cvV (rm' := rmX5_add) C mX5_add vX5_add k471 [aI (l1 + l3), aI (l2 - l3)] [] rfl rfl (Nat.le_of_ble_eq_true rfl) (by decide) ⟨Nat.zero_le _, Nat.zero_le _⟩ 0 0 rfl rfl dX5_setSquare_25 w (fun h6 w => ?_)
    refine r_aload_n C dX5_setSquare_28 rfl 0 rfl ?_
    refine r_iload_n C dX5_setSquare_29 rfl 1 rfl ?_
    refine r_iload_n C dX5_setSquare_30 rfl 3 rfl ?_
    refine r_iadd C dX5_setSquare_31 ?_
    refine r_iload_n C dX5_setSquare_32 rfl 2 rfl ?_
    refine r_iload_n C dX5_setSquare_33 rfl 3 rfl ?_
    refine r_iadd C dX5_setSquare_34 ?_
    refine r_cvV (rm' := rmX5_add) C mX5_add vX5_add k471 [aI (l1 + l3), aI (l2 + l3)] [] rfl rfl (Nat.le_of_ble_eq_true rfl) (by decide) ⟨Nat.zero_le _, Nat.zero_le _⟩ 0 0 rfl rfl dX5_setSquare_35 w (fun h8 w => ?_)
    refine r_aload_n C dX5_setSquare_38 rfl 0 rfl ?_
    refine r_iload_n C dX5_setSquare_39 rfl 1 rfl ?_
    refine r_iload_n C dX5_setSquare_40 rfl 3 rfl ?_
    refine r_isub C dX5_setSquare_41 ?_
    refine r_iload_n C dX5_setSquare_42 rfl 2 rfl ?_
    refine r_iload_n C dX5_setSquare_43 rfl 3 rfl ?_
    refine r_iadd C dX5_setSquare_44 ?_
    refine r_cvV (rm' := rmX5_add) C mX5_add vX5_add k471 [aI (l1 - l3), aI (l2 + l3)] [] rfl rfl (Nat.le_of_ble_eq_true rfl) (by decide) ⟨Nat.zero_le _, Nat.zero_le _⟩ 0 0 rfl rfl dX5_setSquare_45 w (fun h10 w => ?_)
    exact r_vret C D rfl (Nat.zero_le _) (Nat.zero_le _) dX5_setSquare_48 w
theorem eX5_setSquare {E : EV} {post : Option AV → AH → Prop} {h : AH} {l0 : Option Nat} {l1 : Int32} {l2 : Int32} {l3 : Int32} (w : PX5_setSquare_0 E post h l0 l1 l2 l3) : sX5_setSquare E [aP l0, aI l1, aI l2, aI l3] h post := Spec.of RX5 rfl rfl (Nat.le_of_ble_eq_true rfl) fun X C D => bX5_setSquare_0 C D w
theorem dX4_prepare_0 : decode cX4_prepare 0 = .ok (.aload_n 0, 1) := by decide +kernel
theorem dX4_prepare_1 : decode cX4_prepare 1 = .ok (.aload_n 2, 1) := by decide +kernel
theorem dX4_prepare_2 : decode cX4_prepare 2 = .ok (.getfield 29, 3) := by decide +kernel
theorem dX4_prepare_5 : decode cX4_prepare 5 = .ok (.ineg, 1) := by decide +kernel
theorem dX4_prepare_6 : decode cX4_prepare 6 = .ok (.putfield 35, 3) := by decide +kernel
theorem dX4_prepare_9 : decode cX4_prepare 9 = .ok (.aload_n 0, 1) := by decide +kernel
theorem dX4_prepare_10 : decode cX4_prepare 10 = .ok (.aload_n 2, 1) := by decide +kernel
theorem dX4_prepare_11 : decode cX4_prepare 11 = .ok (.getfield 36, 3) := by decide +kernel
theorem dX4_prepare_14 : decode cX4_prepare 14 = .ok (.ineg, 1) := by decide +kernel
theorem dX4_prepare_15 : decode cX4_prepare 15 = .ok (.putfield 39, 3) := by decide +kernel
theorem dX4_prepare_18 : decode cX4_prepare 18 = .ok (.aload_n 0, 1) := by decide +kernel
theorem dX4_prepare_19 : decode cX4_prepare 19 = .ok (.aload_n 1, 1) := by decide +kernel
theorem dX4_prepare_20 : decode cX4_prepare 20 = .ok (.getfield 40, 3) := by decide +kernel
theorem dX4_prepare_23 : decode cX4_prepare 23 = .ok (.aload_n 2, 1) := by decide +kernel
theorem dX4_prepare_24 : decode cX4_prepare 24 = .ok (.getfield 45, 3) := by decide +kernel
theorem dX4_prepare_27 : decode cX4_prepare 27 = .ok (.isub, 1) := by decide +kernel
theorem dX4_prepare_28 : decode cX4_prepare 28 = .ok (.putfield 48, 3) := by decide +kernel
theorem dX4_prepare_31 : decode cX4_prepare 31 = .ok (.aload_n 0, 1) := by decide +kernel
theorem dX4_prepare_32 : decode cX4_prepare 32 = .ok (.aload_n 1, 1) := by decide +kernel
theorem dX4_prepare_33 : decode cX4_prepare 33 = .ok (.getfield 49, 3) := by decide +kernel
theorem dX4_prepare_36 : decode cX4_prepare 36 = .ok (.aload_n 2, 1) := by decide +kernel
theorem dX4_prepare_37 : decode cX4_prepare 37 = .ok (.getfield 52, 3) := by decide +kernel
theorem dX4_prepare_40 : decode cX4_prepare 40 = .ok (.isub, 1) := by decide +kernel
theorem dX4_prepare_41 : decode cX4_prepare 41 = .ok (.putfield 55, 3) := by decide +kernel
theorem dX4_prepare_44 : decode cX4_prepare 44 = .ok (.aload_n 0, 1) := by decide +kernel
theorem dX4_prepare_45 : decode cX4_prepare 45 = .ok (.iconst 0, 1) := by decide +kernel
theorem dX4_prepare_46 : decode cX4_prepare 46 = .ok (.putfield 56, 3) := by decide +kernel
theorem dX4_prepare_49 : decode cX4_prepare 49 = .ok (.iconst 0, 1) := by decide +kernel
theorem dX4_prepare_50 : decode cX4_prepare 50 = .ok (.istore 4, 2) := by decide +kernel
theorem dX4_prepare_52 : decode cX4_prepare 52 = .ok (.iload 4, 2) := by decide +kernel
theorem dX4_prepare_54 : decode cX4_prepare 54 = .ok (.aload_n 1, 1) := by decide +kernel
theorem dX4_prepare_55 : decode cX4_prepare 55 = .ok (.getfield 59, 3) := by decide +kernel
theorem dX4_prepare_58 : decode cX4_prepare 58 = .ok (.if_icmp .ge 142, 3) := by decide +kernel
theorem dX4_prepare_61 : decode cX4_prepare 61 = .ok (.iload 4, 2) := by decide +kernel
theorem dX4_prepare_63 : decode cX4_prepare 63 = .ok (.iload_n 3, 1) := by decide +kernel
theorem dX4_prepare_64 : decode cX4_prepare 64 = .ok (.if_icmp .ne 6, 3) := by decide +kernel
theorem dX4_prepare_67 : decode cX4_prepare 67 = .ok (.goto 127, 3) := by decide +kernel
theorem dX4_prepare_70 : decode cX4_prepare 70 = .ok (.aload_n 0, 1) := by decide +kernel
theorem dX4_prepare_71 : decode cX4_prepare 71 = .ok (.getfield 21, 3) := by decide +kernel
theorem dX4_prepare_74 : decode cX4_prepare 74 = .ok (.aload_n 1, 1) := by decide +kernel
theorem dX4_prepare_75 : decode cX4_prepare 75 = .ok (.iload 4, 2) := by decide +kernel
theorem dX4_prepare_77 : decode cX4_prepare 77 = .ok (.invokevirtual 60, 3) := by decide +kernel
theorem dX4_prepare_80 : decode cX4_prepare 80 = .ok (.aload_n 1, 1) := by decide +kernel
theorem dX4_prepare_81 : decode cX4_prepare 81 = .ok (.iload 4, 2) := by decide +kernel
theorem dX4_prepare_83 : decode cX4_prepare 83 = .ok (.invokevirtual 64, 3) := by decide +kernel
theorem dX4_prepare_86 : decode cX4_prepare 86 = .ok (.aload_n 1, 1) := by decide +kernel
theorem dX4_prepare_87 : decode cX4_prepare 87 = .ok (.getfield 67, 3) := by decide +kernel
theorem dX4_prepare_90 : decode cX4_prepare 90 = .ok (.invokevirtual 70, 3) := by decide +kernel
theorem dX4_prepare_93 : decode cX4_prepare 93 = .ok (.aload_n 1, 1) := by decide +kernel
theorem dX4_prepare_94 : decode cX4_prepare 94 = .ok (.iload 4, 2) := by decide +kernel
theorem dX4_prepare_96 : decode cX4_prepare 96 = .ok (.invokevirtual 74, 3) := by decide +kernel
theorem dX4_prepare_99 : decode cX4_prepare 99 = .ok (.astore 5, 2) := by decide +kernel
theorem dX4_prepare_101 : decode cX4_prepare 101 = .ok (.iconst 0, 1) := by decide +kernel
theorem dX4_prepare_102 : decode cX4_prepare 102 = .ok (.istore 6, 2) := by decide +kernel
theorem dX4_prepare_104 : decode cX4_prepare 104 = .ok (.iload 6, 2) := by decide +kernel
theorem dX4_prepare_106 : decode cX4_prepare 106 = .ok (.aload 5, 2) := by decide +kernel
theorem dX4_prepare_108 : decode cX4_prepare 108 = .ok (.getfield 78, 3) := by decide +kernel
theorem dX4_prepare_111 : decode cX4_prepare 111 = .ok (.if_icmp .ge 83, 3) := by decide +kernel
theorem dX4_prepare_114 : decode cX4_prepare 114 = .ok (.iconst 0, 1) := by decide +kernel
theorem dX4_prepare_115 : decode cX4_prepare 115 = .ok (.istore 7, 2) := by decide +kernel
theorem dX4_prepare_117 : decode cX4_prepare 117 = .ok (.iload 7, 2) := by decide +kernel
theorem dX4_prepare_119 : decode cX4_prepare 119 = .ok (.aload_n 2, 1) := by decide +kernel
theorem dX4_prepare_120 : decode cX4_prepare 120 = .ok (.getfield 78, 3) := by decide +kernel
theorem dX4_prepare_123 : decode cX4_prepare 123 = .ok (.if_icmp .ge 65, 3) := by decide +kernel
theorem dX4_prepare_126 : decode cX4_prepare 126 = .ok (.aload_n 0, 1) := by decide +kernel
theorem dX4_prepare_127 : decode cX4_prepare 127 = .ok (.getfield 12, 3) := by decide +kernel
theorem dX4_prepare_130 : decode cX4_prepare 130 = .ok (.aload 5, 2) := by decide +kernel
theorem dX4_prepare_132 : decode cX4_prepare 132 = .ok (.iload 6, 2) := by decide +kernel
theorem dX4_prepare_134 : decode cX4_prepare 134 = .ok (.aload_n 2, 1) := by decide +kernel
theorem dX4_prepare_135 : decode cX4_prepare 135 = .ok (.iload 7, 2) := by decide +kernel
theorem dX4_prepare_137 : decode cX4_prepare 137 = .ok (.iconst 2, 1) := by decide +kernel
theorem dX4_prepare_138 : decode cX4_prepare 138 = .ok (.invokevirtual 81, 3) := by decide +kernel
theorem dX4_prepare_141 : decode cX4_prepare 141 = .ok (.aload_n 0, 1) := by decide +kernel
theorem dX4_prepare_142 : decode cX4_prepare 142 = .ok (.aload_n 0, 1) := by decide +kernel
theorem dX4_prepare_143 : decode cX4_prepare 143 = .ok (.getfield 56, 3) := by decide +kernel
theorem dX4_prepare_146 : decode cX4_prepare 146 = .ok (.invokevirtual 85, 3) := by decide +kernel
theorem dX4_prepare_149 : decode cX4_prepare 149 = .ok (.astore 8, 2) := by decide +kernel
theorem dX4_prepare_151 : decode cX4_prepare 151 = .ok (.aload 8, 2) := by decide +kernel
theorem dX4_prepare_153 : decode cX4_prepare 153 = .ok (.ifnull 29, 3) := by decide +kernel
theorem dX4_prepare_156 : decode cX4_prepare 156 = .ok (.aload 8, 2) := by decide +kernel
theorem dX4_prepare_158 : decode cX4_prepare 158 = .ok (.aload_n 0, 1) := by decide +kernel
theorem dX4_prepare_159 : decode cX4_prepare 159 = .ok (.getfield 12, 3) := by decide +kernel
theorem dX4_prepare_162 : decode cX4_prepare 162 = .ok (.getfield 89, 3) := by decide +kernel
theorem dX4_prepare_165 : decode cX4_prepare 165 = .ok (.aload_n 0, 1) := by decide +kernel
theorem dX4_prepare_166 : decode cX4_prepare 166 = .ok (.getfield 21, 3) := by decide +kernel
theorem dX4_prepare_169 : decode cX4_prepare 169 = .ok (.invokevirtual 92, 3) := by decide +kernel
theorem dX4_prepare_172 : decode cX4_prepare 172 = .ok (.aload_n 0, 1) := by decide +kernel
theorem dX4_prepare_173 : decode cX4_prepare 173 = .ok (.dup, 1) := by decide +kernel
theorem dX4_prepare_174 : decode cX4_prepare 174 = .ok (.getfield 56, 3) := by decide +kernel
theorem dX4_prepare_177 : decode cX4_prepare 177 = .ok (.iconst 1, 1) := by decide +kernel
theorem dX4_prepare_178 : decode cX4_prepare 178 = .ok (.iadd, 1) := by decide +kernel
theorem dX4_prepare_179 : decode cX4_prepare 179 = .ok (.putfield 56, 3) := by decide +kernel
theorem dX4_prepare_182 : decode cX4_prepare 182 = .ok (.iinc 7 1, 3) := by decide +kernel
theorem dX4_prepare_185 : decode cX4_prepare 185 = .ok (.goto (-68), 3) := by decide +kernel
theorem dX4_prepare_188 : decode cX4_prepare 188 = .ok (.iinc 6 1, 3) := by decide +kernel
theorem dX4_prepare_191 : decode cX4_prepare 191 = .ok (.goto (-87), 3) := by decide +kernel
theorem dX4_prepare_194 : decode cX4_prepare 194 = .ok (.iinc 4 1, 3) := by decide +kernel
theorem dX4_prepare_197 : decode cX4_prepare 197 = .ok (.goto (-145), 3) := by decide +kernel
theorem dX4_prepare_200 : decode cX4_prepare 200 = .ok (.return_, 1) := by decide +kernel
abbrev rmX4_prepare : Room := { frames := 4, cells := 0, slots := 0, locals := 160 }
abbrev sX4_prepare (E : EV) : List AV → AH → (Option AV → AH → Prop) → Prop := Spec E yX4_prepare cX4_prepare 9 none rmX4_prepare
theorem mX4_prepare : Mt yX4_prepare cX4_prepare 9 none 3 := ⟨k640, k9, by decide +kernel⟩
theorem vX4_prepare : MtV yX4_prepare 4 := ⟨k638, k639, by decide, (RX4, TX4, 10), rfl, rfl⟩
def PX4_prepare_117 (E : EV) (post : Option AV → AH → Prop) (J104 : AH → Option Nat → Option Nat → Option Nat → Int32 → Int32 → Option Nat → Int32 → Prop) (J117 : AH → Option Nat → Option Nat → Option Nat → Int32 → Int32 → Option Nat → Int32 → Int32 → Prop) (h : AH) (l0 : Option Nat) (l1 : Option Nat) (l2 : Option Nat) (l3 : Int32) (l4 : Int32) (l5 : Option Nat) (l6 : Int32) (l7 : Int32) : Prop :=
  rdI h l2 6 3 fun x1 => (x1 ≤ l7 → J104 h l0 l1 l2 l3 l4 l5 (l6 + (1 : Int32))) ∧ (¬ x1 ≤ l7 → rdP h l0 4 0 fun x2 => CV (sX3_addUp E) x2 3 [aP l5, aI l6, aP l2, aI l7, aI (2 : Int32)] h (kV fun h4 => rdI h4 l0 4 3 fun x5 => CV (sX4_obstacle E) l0 4 [aI x5] h4 (kP fun x6 h7 => (x6 = none → J117 h7 l0 l1 l2 l3 l4 l5 l6 (l7 + (1 : Int32))) ∧ (¬ x6 = none → rdP h7 l0 4 0 fun x9 => rdP h7 x9 3 2 fun x10 => rdP h7 l0 4 1 fun x11 => CV (sX5_setSum E) x6 5 [aP x10, aP x11] h7 (kV fun h13 => rdI h13 l0 4 3 fun x14 => wr h13 l0 4 3 (aI (x14 + (1 : Int32))) fun h15 => J117 h15 l0 l1 l2 l3 l4 l5 l6 (l7 + (1 : Int32)))))))
theorem bX4_prepare_117 {E : EV} {X : AX} {post : Option AV → AH → Prop} (C : Cb E X cX4_prepare RX4 9 rmX4_prepare) (D : Cr E X none rmX4_prepare "prepare" post) {J104 : AH → Option Nat → Option Nat → Option Nat → Int32 → Int32 → Option Nat → Int32 → Prop} (g104 : ∀ (h : AH) (l0 : Option Nat) (l1 : Option Nat) (l2 : Option Nat) (l3 : Int32) (l4 : Int32) (l5 : Option Nat) (l6 : Int32), J104 h l0 l1 l2 l3 l4 l5 l6 → Go E X 9 0 0 104 [(0, aP l0), (1, aP l1), (2, aP l2), (3, aI l3), (4, aI l4), (5, aP l5), (6, aI l6)] [] h) {J117 : AH → Option Nat → Option Nat → Option Nat → Int32 → Int32 → Option Nat → Int32 → Int32 → Prop} (g117 : ∀ (h : AH) (l0 : Option Nat) (l1 : Option Nat) (l2 : Option Nat) (l3 : Int32) (l4 : Int32) (l5 : Option Nat) (l6 : Int32) (l7 : Int32), J117 h l0 l1 l2 l3 l4 l5 l6 l7 → Go E X 9 0 0 117 [(0, aP l0), (1, aP l1), (2, aP l2), (3, aI l3), (4, aI l4), (5, aP l5), (6, aI l6), (7, aI l7)] [] h) {h : AH} {l0 : Option Nat} {l1 : Option Nat} {l2 : Option Nat} {l3 : Int32} {l4 : Int32} {l5 : Option Nat} {l6 : Int32} {l7 : Int32} (w : PX4_prepare_117 E post J104 J117 h l0 l1 l2 l3 l4 l5 l6 l7) : Go E X 9 0 0 117 [(0, aP l0), (1, aP l1), (2, aP l2), (3, aI l3), (4, aI l4), (5, aP l5), (6, aI l6), (7, aI l7)] [] h := by
  unfold PX4_prepare_117 at w
  refine r_iload C dX4_prepare_117 7 rfl ?_
  refine r_aload_n C dX4_prepare_119 rfl 2 rfl ?_
  refine r_getI C fcX6 (f := 3) (by decide) rfl k31 dX4_prepare_120 (w.mono fun x1 w => ?_)
  refine r_icmp_ge C dX4_prepare_123 (tgt := 188) rfl (fun hc => ?_) (fun hc => ?_)
  · have w := w.1 hc
    refine r_iinc C dX4_prepare_188 6 rfl (v := 1) rfl (by decide) rfl ?_
    refine r_goto C dX4_prepare_191 (tgt := 104) rfl ?_
    exact r_sub [1, 2, 3, 4, 5, 6, 0] rfl (g104 h l0 l1 l2 l3 l4 l5 (l6 + (1 : Int32)) w)
  · have w := w.2 hc
    refine r_aload_n C dX4_prepare_126 rfl 0 rfl ?_
    refine r_getP C fcX4 (f := 0) (by decide) rfl k209 dX4_prepare_127 (w.mono fun x2 w => ?_)
    refine r_aload C dX4_prepare_130 5 rfl ?_
    refine r_iload C dX4_prepare_132 6 rfl ?_
    refine r_aload_n C dX4_prepare_134 rfl 2 rfl ?_
    refine r_iload C dX4_prepare_135 7 rfl ?_
    refine r_iconst (v := 2) C dX4_prepare_137 rfl ?_
    refine r_cvV (rm' := rmX3_addUp) C mX3_addUp vX3_addUp k648 [aP l5, aI l6, aP l2, aI l7, aI (2 : Int32)] [] rfl rfl (Nat.le_of_ble_eq_true rfl) (by decide) ⟨Nat.zero_le _, Nat.zero_le _⟩ 0 0 rfl rfl dX4_prepare_138 w (fun h4 w => ?_)
    refine r_aload_n C dX4_prepare_141 rfl 0 rfl ?_
    refine r_aload_n C dX4_prepare_142 rfl 0 rfl ?_
    refine r_getI C fcX4 (f := 3) (by decide) rfl k212 dX4_prepare_143 (w.mono fun x5 w => ?_)
    refine r_cvP (rm' := rmX4_obstacle) C mX4_obstacle vX4_obstacle k649 [aI x5] [] rfl rfl (Nat.le_of_ble_eq_true rfl) (by decide) ⟨Nat.zero_le _, Nat.zero_le _⟩ 0 0 rfl rfl dX4_prepare_146 w (fun x6 h7 w => ?_)
    refine r_astore C dX4_prepare_149 (by decide) rfl ?_
    refine r_aload C dX4_prepare_151 0 rfl ?_
    refine r_ifnull C dX4_prepare_153 (tgt := 182) rfl (fun hc => ?_) (fun hc => ?_)
    · have w := w.1 hc
      refine r_iinc C dX4_prepare_182 8 rfl (v := 1) rfl (by decide) rfl ?_
      refine r_goto C dX4_prepare_185 (tgt := 117) rfl ?_
      exact r_sub [2, 3, 4, 5, 6, 7, 8, 0] rfl (g117 h7 l0 l1 l2 l3 l4 l5 l6 (l7 + (1 : Int32)) w)
    · have w := w.2 hc
      refine r_aload C dX4_prepare_156 0 rfl ?_
      refine r_aload_n C dX4_prepare_158 rfl 1 rfl ?_
      refine r_getP C fcX4 (f := 0) (by decide) rfl k209 dX4_prepare_159 (w.mono fun x9 w => ?_)
      refine r_getP C fcX3 (f := 2) (by decide) rfl k186 dX4_prepare_162 (w.mono fun x10 w => ?_)
      refine r_aload_n C dX4_prepare_165 rfl 1 rfl ?_
      refine r_getP C fcX4 (f := 1) (by decide) rfl k210 dX4_prepare_166 (w.mono fun x11 w => ?_)
      refine r_cvV (rm' := rmX5_setSum) C mX5_setSum vX5_setSum k653 [aP x10, aP x11] [] rfl rfl (Nat.le_of_ble_eq_true rfl) (by decide) ⟨Nat.zero_le _, Nat.zero_le _⟩ 0 0 rfl rfl dX4_prepare_169 w (fun h13 w => ?_)
      refine r_aload_n C dX4_prepare_172 rfl 1 rfl ?_
      refine r_dup C dX4_prepare_173 rfl ?_
      refine r_getI C fcX4 (f := 3) (by decide) rfl k212 dX4_prepare_174 (w.mono fun x14 w => ?_)
      refine r_iconst (v := 1) C dX4_prepare_177 rfl ?_
      refine r_iadd C dX4_prepare_178 ?_
      refine r_put C fcX4 (f := 3) (by decide) rfl rfl rfl rfl k212 dX4_prepare_179 (w.mono fun h15 w => ?_)
      refine r_iinc C dX4_prepare_182 8 rfl (v := 1) rfl (by decide) rfl ?_
      refine r_goto C dX4_prepare_185 (tgt := 117) rfl ?_
      exact r_sub [2, 3, 4, 5, 6, 7, 8, 0] rfl (g117 h15 l0 l1 l2 l3 l4 l5 l6 (l7 + (1 : Int32)) w)
theorem lpX4_prepare_117 {E : EV} {X : AX} {post : Option AV → AH → Prop} (C : Cb E X cX4_prepare RX4 9 rmX4_prepare) (D : Cr E X none rmX4_prepare "prepare" post) {J104 : AH → Option Nat → Option Nat → Option Nat → Int32 → Int32 → Option Nat → Int32 → Prop} (g104 : ∀ (h : AH) (l0 : Option Nat) (l1 : Option Nat) (l2 : Option Nat) (l3 : Int32) (l4 : Int32) (l5 : Option Nat) (l6 : Int32), J104 h l0 l1 l2 l3 l4 l5 l6 → Go E X 9 0 0 104 [(0, aP l0), (1, aP l1), (2, aP l2), (3, aI l3), (4, aI l4), (5, aP l5), (6, aI l6)] [] h) (I : Nat → AH → Option Nat → Option Nat → Option Nat → Int32 → Int32 → Option Nat → Int32 → Int32 → Prop) (step : ∀ (z : Nat) (h : AH) (l0 : Option Nat) (l1 : Option Nat) (l2 : Option Nat) (l3 : Int32) (l4 : Int32) (l5 : Option Nat) (l6 : Int32) (l7 : Int32), I z h l0 l1 l2 l3 l4 l5 l6 l7 → PX4_prepare_117 E post J104 (fun h l0 l1 l2 l3 l4 l5 l6 l7 => ∃ z', z' < z ∧ I z' h l0 l1 l2 l3 l4 l5 l6 l7) h l0 l1 l2 l3 l4 l5 l6 l7) : ∀ (z : Nat) (h : AH) (l0 : Option Nat) (l1 : Option Nat) (l2 : Option Nat) (l3 : Int32) (l4 : Int32) (l5 : Option Nat) (l6 : Int32) (l7 : Int32), I z h l0 l1 l2 l3 l4 l5 l6 l7 → Go E X 9 0 0 117 [(0, aP l0), (1, aP l1), (2, aP l2), (3, aI l3), (4, aI l4), (5, aP l5), (6, aI l6), (7, aI l7)] [] h := by
  intro z
  induction z using Nat.strongRecOn with
  | _ z ih =>
    intro h l0 l1 l2 l3 l4 l5 l6 l7 hI
    exact bX4_prepare_117 C D g104 (fun h l0 l1 l2 l3 l4 l5 l6 l7 hJ => by obtain ⟨z', hz, hi⟩ := hJ; exact ih z' hz h l0 l1 l2 l3 l4 l5 l6 l7 hi) (step z h l0 l1 l2 l3 l4 l5 l6 l7 hI)
def PX4_prepare_104 (E : EV) (post : Option AV → AH → Prop) (J52 : AH → Option Nat → Option Nat → Option Nat → Int32 → Int32 → Prop) (J117 : AH → Option Nat → Option Nat → Option Nat → Int32 → Int32 → Option Nat → Int32 → Int32 → Prop) (h : AH) (l0 : Option Nat) (l1 : Option Nat) (l2 : Option Nat) (l3 : Int32) (l4 : Int32) (l5 : Option Nat) (l6 : Int32) : Prop :=
  rdI h l5 6 3 fun x1 => (x1 ≤ l6 → J52 h l0 l1 l2 l3 (l4 + (1 : Int32))) ∧ (¬ x1 ≤ l6 → J117 h l0 l1 l2 l3 l4 l5 l6 (0 : Int32))
theorem bX4_prepare_104 {E : EV} {X : AX} {post : Option AV → AH → Prop} (C : Cb E X cX4_prepare RX4 9 rmX4_prepare) (D : Cr E X none rmX4_prepare "prepare" post) {J52 : AH → Option Nat → Option Nat → Option Nat → Int32 → Int32 → Prop} (g52 : ∀ (h : AH) (l0 : Option Nat) (l1 : Option Nat) (l2 : Option Nat) (l3 : Int32) (l4 : Int32), J52 h l0 l1 l2 l3 l4 → Go E X 9 0 0 52 [(0, aP l0), (1, aP l1), (2, aP l2), (3, aI l3), (4, aI l4)] [] h) {J117 : AH → Option Nat → Option Nat → Option Nat → Int32 → Int32 → Option Nat → Int32 → Int32 → Prop} (g117 : ∀ (h : AH) (l0 : Option Nat) (l1 : Option Nat) (l2 : Option Nat) (l3 : Int32) (l4 : Int32) (l5 : Option Nat) (l6 : Int32) (l7 : Int32), J117 h l0 l1 l2 l3 l4 l5 l6 l7 → Go E X 9 0 0 117 [(0, aP l0), (1, aP l1), (2, aP l2), (3, aI l3), (4, aI l4), (5, aP l5), (6, aI l6), (7, aI l7)] [] h) {h : AH} {l0 : Option Nat} {l1 : Option Nat} {l2 : Option Nat} {l3 : Int32} {l4 : Int32} {l5 : Option Nat} {l6 : Int32} (w : PX4_prepare_104 E post J52 J117 h l0 l1 l2 l3 l4 l5 l6) : Go E X 9 0 0 104 [(0, aP l0), (1, aP l1), (2, aP l2), (3, aI l3), (4, aI l4), (5, aP l5), (6, aI l6)] [] h := by
  unfold PX4_prepare_104 at w
  refine r_iload C dX4_prepare_104 6 rfl ?_
  refine r_aload C dX4_prepare_106 5 rfl ?_
  refine r_getI C fcX6 (f := 3) (by decide) rfl k31 dX4_prepare_108 (w.mono fun x1 w => ?_)
  refine r_icmp_ge C dX4_prepare_111 (tgt := 194) rfl (fun hc => ?_) (fun hc => ?_)
  · have w := w.1 hc
    refine r_iinc C dX4_prepare_194 4 rfl (v := 1) rfl (by decide) rfl ?_
    refine r_goto C dX4_prepare_197 (tgt := 52) rfl ?_
    exact r_sub [1, 2, 3, 4, 0] rfl (g52 h l0 l1 l2 l3 (l4 + (1 : Int32)) w)
  · have w := w.2 hc
    refine r_iconst (v := 0) C dX4_prepare_114 rfl ?_
    refine r_istore C dX4_prepare_115 (by decide) rfl ?_
    exact r_sub [1, 2, 3, 4, 5, 6, 7, 0] rfl (g117 h l0 l1 l2 l3 l4 l5 l6 (0 : Int32) w)
def PX4_prepare_52 (E : EV) (post : Option AV → AH → Prop) (J52 : AH → Option Nat → Option Nat → Option Nat → Int32 → Int32 → Prop) (J104 : AH → Option Nat → Option Nat → Option Nat → Int32 → Int32 → Option Nat → Int32 → Prop) (h : AH) (l0 : Option Nat) (l1 : Option Nat) (l2 : Option Nat) (l3 : Int32) (l4 : Int32) : Prop :=
  rdI h l1 8 5 fun x1 => (x1 ≤ l4 → post none h) ∧ (¬ x1 ≤ l4 → (¬ l4 = l3 → rdP h l0 4 1 fun x2 => CV (sX8_x E) l1 8 [aI l4] h (kI fun x3 h4 => CV (sX8_y E) l1 8 [aI l4] h4 (kI fun x5 h6 => rdI h6 l1 8 8 fun x7 => CV (sX5_setSquare E) x2 5 [aI x3, aI x5, aI x7] h6 (kV fun h9 => CV (sX8_shape E) l1 8 [aI l4] h9 (kP fun x10 h11 => J104 h11 l0 l1 l2 l3 l4 x10 (0 : Int32)))))) ∧ (l4 = l3 → J52 h l0 l1 l2 l3 (l4 + (1 : Int32))))
theorem bX4_prepare_52 {E : EV} {X : AX} {post : Option AV → AH → Prop} (C : Cb E X cX4_prepare RX4 9 rmX4_prepare) (D : Cr E X none rmX4_prepare "prepare" post) {J52 : AH → Option Nat → Option Nat → Option Nat → Int32 → Int32 → Prop} (g52 : ∀ (h : AH) (l0 : Option Nat) (l1 : Option Nat) (l2 : Option Nat) (l3 : Int32) (l4 : Int32), J52 h l0 l1 l2 l3 l4 → Go E X 9 0 0 52 [(0, aP l0), (1, aP l1), (2, aP l2), (3, aI l3), (4, aI l4)] [] h) {J104 : AH → Option Nat → Option Nat → Option Nat → Int32 → Int32 → Option Nat → Int32 → Prop} (g104 : ∀ (h : AH) (l0 : Option Nat) (l1 : Option Nat) (l2 : Option Nat) (l3 : Int32) (l4 : Int32) (l5 : Option Nat) (l6 : Int32), J104 h l0 l1 l2 l3 l4 l5 l6 → Go E X 9 0 0 104 [(0, aP l0), (1, aP l1), (2, aP l2), (3, aI l3), (4, aI l4), (5, aP l5), (6, aI l6)] [] h) {h : AH} {l0 : Option Nat} {l1 : Option Nat} {l2 : Option Nat} {l3 : Int32} {l4 : Int32} (w : PX4_prepare_52 E post J52 J104 h l0 l1 l2 l3 l4) : Go E X 9 0 0 52 [(0, aP l0), (1, aP l1), (2, aP l2), (3, aI l3), (4, aI l4)] [] h := by
  unfold PX4_prepare_52 at w
  refine r_iload C dX4_prepare_52 4 rfl ?_
  refine r_aload_n C dX4_prepare_54 rfl 1 rfl ?_
  refine r_getI C fcX8 (f := 5) (by decide) rfl k257 dX4_prepare_55 (w.mono fun x1 w => ?_)
  refine r_icmp_ge C dX4_prepare_58 (tgt := 200) rfl (fun hc => ?_) (fun hc => ?_)
  · have w := w.1 hc
    exact r_vret C D rfl (Nat.zero_le _) (Nat.zero_le _) dX4_prepare_200 w
  · have w := w.2 hc
    refine r_iload C dX4_prepare_61 4 rfl ?_
    refine r_iload_n C dX4_prepare_63 rfl 3 rfl ?_
    refine r_icmp_ne C dX4_prepare_64 (tgt := 70) rfl (fun hc => ?_) (fun hc => ?_)
    · have w := w.1 hc
      refine r_aload_n C dX4_prepare_70 rfl 0 rfl ?_
      refine r_getP C fcX4 (f := 1) (by decide) rfl k210 dX4_prepare_71 (w.mono fun x2 w => ?_)
      refine r_aload_n C dX4_prepare_74 rfl 1 rfl ?_
      refine r_iload C dX4_prepare_75 4 rfl ?_
      refine r_cvI (rm' := rmX8_x) C mX8_x vX8_x k641 [aI l4] [aP x2] rfl rfl (Nat.le_of_ble_eq_true rfl) (by decide) ⟨Nat.zero_le _, Nat.zero_le _⟩ 0 0 rfl rfl dX4_prepare_77 w (fun x3 h4 w => ?_)
      refine r_aload_n C dX4_prepare_80 rfl 1 rfl ?_
      refine r_iload C dX4_prepare_81 4 rfl ?_
      refine r_cvI (rm' := rmX8_y) C mX8_y vX8_y k642 [aI l4] [aI x3, aP x2] rfl rfl (Nat.le_of_ble_eq_true rfl) (by decide) ⟨Nat.zero_le _, Nat.zero_le _⟩ 0 0 rfl rfl dX4_prepare_83 w (fun x5 h6 w => ?_)
      refine r_aload_n C dX4_prepare_86 rfl 1 rfl ?_
      refine r_getI C fcX8 (f := 8) (by decide) rfl k265 dX4_prepare_87 (w.mono fun x7 w => ?_)
      refine r_cvV (rm' := rmX5_setSquare) C mX5_setSquare vX5_setSquare k643 [aI x3, aI x5, aI x7] [] rfl rfl (Nat.le_of_ble_eq_true rfl) (by decide) ⟨Nat.zero_le _, Nat.zero_le _⟩ 0 0 rfl rfl dX4_prepare_90 w (fun h9 w => ?_)
      refine r_aload_n C dX4_prepare_93 rfl 1 rfl ?_
      refine r_iload C dX4_prepare_94 4 rfl ?_
      refine r_cvP (rm' := rmX8_shape) C mX8_shape vX8_shape k647 [aI l4] [] rfl rfl (Nat.le_of_ble_eq_true rfl) (by decide) ⟨Nat.zero_le _, Nat.zero_le _⟩ 0 0 rfl rfl dX4_prepare_96 w (fun x10 h11 w => ?_)
      refine r_astore C dX4_prepare_99 (by decide) rfl ?_
      refine r_iconst (v := 0) C dX4_prepare_101 rfl ?_
      refine r_istore C dX4_prepare_102 (by decide) rfl ?_
      exact r_sub [2, 3, 4, 5, 6, 1, 0] rfl (g104 h11 l0 l1 l2 l3 l4 x10 (0 : Int32) w)
    · have w := w.2 hc
      refine r_goto C dX4_prepare_67 (tgt := 194) rfl ?_
      refine r_iinc C dX4_prepare_194 4 rfl (v := 1) rfl (by decide) rfl ?_
      refine r_goto C dX4_prepare_197 (tgt := 52) rfl ?_
      exact r_sub [1, 2, 3, 4, 0] rfl (g52 h l0 l1 l2 l3 (l4 + (1 : Int32)) w)
theorem lpX4_prepare_52 {E : EV} {X : AX} {post : Option AV → AH → Prop} (C : Cb E X cX4_prepare RX4 9 rmX4_prepare) (D : Cr E X none rmX4_prepare "prepare" post) {J104 : AH → Option Nat → Option Nat → Option Nat → Int32 → Int32 → Option Nat → Int32 → Prop} (g104 : ∀ (h : AH) (l0 : Option Nat) (l1 : Option Nat) (l2 : Option Nat) (l3 : Int32) (l4 : Int32) (l5 : Option Nat) (l6 : Int32), J104 h l0 l1 l2 l3 l4 l5 l6 → Go E X 9 0 0 104 [(0, aP l0), (1, aP l1), (2, aP l2), (3, aI l3), (4, aI l4), (5, aP l5), (6, aI l6)] [] h) (I : Nat → AH → Option Nat → Option Nat → Option Nat → Int32 → Int32 → Prop) (step : ∀ (z : Nat) (h : AH) (l0 : Option Nat) (l1 : Option Nat) (l2 : Option Nat) (l3 : Int32) (l4 : Int32), I z h l0 l1 l2 l3 l4 → PX4_prepare_52 E post (fun h l0 l1 l2 l3 l4 => ∃ z', z' < z ∧ I z' h l0 l1 l2 l3 l4) J104 h l0 l1 l2 l3 l4) : ∀ (z : Nat) (h : AH) (l0 : Option Nat) (l1 : Option Nat) (l2 : Option Nat) (l3 : Int32) (l4 : Int32), I z h l0 l1 l2 l3 l4 → Go E X 9 0 0 52 [(0, aP l0), (1, aP l1), (2, aP l2), (3, aI l3), (4, aI l4)] [] h := by
  intro z
  induction z using Nat.strongRecOn with
  | _ z ih =>
    intro h l0 l1 l2 l3 l4 hI
    exact bX4_prepare_52 C D (fun h l0 l1 l2 l3 l4 hJ => by obtain ⟨z', hz, hi⟩ := hJ; exact ih z' hz h l0 l1 l2 l3 l4 hi) g104 (step z h l0 l1 l2 l3 l4 hI)
def PX4_prepare_0 (E : EV) (post : Option AV → AH → Prop) (J52 : AH → Option Nat → Option Nat → Option Nat → Int32 → Int32 → Prop) (h : AH) (l0 : Option Nat) (l1 : Option Nat) (l2 : Option Nat) (l3 : Int32) : Prop :=
  rdI h l2 6 5 fun x1 => wr h l0 4 4 (aI (-x1)) fun h2 => rdI h2 l2 6 6 fun x3 => wr h2 l0 4 5 (aI (-x3)) fun h4 => rdI h4 l1 8 6 fun x5 => rdI h4 l2 6 7 fun x6 => wr h4 l0 4 6 (aI (x5 - x6)) fun h7 => rdI h7 l1 8 7 fun x8 => rdI h7 l2 6 8 fun x9 => wr h7 l0 4 7 (aI (x8 - x9)) fun h10 => wr h10 l0 4 3 (aI (0 : Int32)) fun h11 => J52 h11 l0 l1 l2 l3 (0 : Int32)
theorem bX4_prepare_0 {E : EV} {X : AX} {post : Option AV → AH → Prop} (C : Cb E X cX4_prepare RX4 9 rmX4_prepare) (D : Cr E X none rmX4_prepare "prepare" post) {J52 : AH → Option Nat → Option Nat → Option Nat → Int32 → Int32 → Prop} (g52 : ∀ (h : AH) (l0 : Option Nat) (l1 : Option Nat) (l2 : Option Nat) (l3 : Int32) (l4 : Int32), J52 h l0 l1 l2 l3 l4 → Go E X 9 0 0 52 [(0, aP l0), (1, aP l1), (2, aP l2), (3, aI l3), (4, aI l4)] [] h) {h : AH} {l0 : Option Nat} {l1 : Option Nat} {l2 : Option Nat} {l3 : Int32} (w : PX4_prepare_0 E post J52 h l0 l1 l2 l3) : Go E X 9 0 0 0 [(0, aP l0), (1, aP l1), (2, aP l2), (3, aI l3)] [] h := by
  unfold PX4_prepare_0 at w
  refine r_aload_n C dX4_prepare_0 rfl 0 rfl ?_
  refine r_aload_n C dX4_prepare_1 rfl 2 rfl ?_
  refine r_getI C fcX6 (f := 5) (by decide) rfl k35 dX4_prepare_2 (w.mono fun x1 w => ?_)
  refine r_ineg C dX4_prepare_5 ?_
  refine r_put C fcX4 (f := 4) (by decide) rfl rfl rfl rfl k213 dX4_prepare_6 (w.mono fun h2 w => ?_)
  refine r_aload_n C dX4_prepare_9 rfl 0 rfl ?_
  refine r_aload_n C dX4_prepare_10 rfl 2 rfl ?_
  refine r_getI C fcX6 (f := 6) (by decide) rfl k38 dX4_prepare_11 (w.mono fun x3 w => ?_)
  refine r_ineg C dX4_prepare_14 ?_
  refine r_put C fcX4 (f := 5) (by decide) rfl rfl rfl rfl k214 dX4_prepare_15 (w.mono fun h4 w => ?_)
  refine r_aload_n C dX4_prepare_18 rfl 0 rfl ?_
  refine r_aload_n C dX4_prepare_19 rfl 1 rfl ?_
  refine r_getI C fcX8 (f := 6) (by decide) rfl k260 dX4_prepare_20 (w.mono fun x5 w => ?_)
  refine r_aload_n C dX4_prepare_23 rfl 2 rfl ?_
  refine r_getI C fcX6 (f := 7) (by decide) rfl k41 dX4_prepare_24 (w.mono fun x6 w => ?_)
  refine r_isub C dX4_prepare_27 ?_
  refine r_put C fcX4 (f := 6) (by decide) rfl rfl rfl rfl k215 dX4_prepare_28 (w.mono fun h7 w => ?_)
  refine r_aload_n C dX4_prepare_31 rfl 0 rfl ?_
  refine r_aload_n C dX4_prepare_32 rfl 1 rfl ?_
  refine r_getI C fcX8 (f := 7) (by decide) rfl k263 dX4_prepare_33 (w.mono fun x8 w => ?_)
  refine r_aload_n C dX4_prepare_36 rfl 2 rfl ?_
  refine r_getI C fcX6 (f := 8) (by decide) rfl k44 dX4_prepare_37 (w.mono fun x9 w => ?_)
  refine r_isub C dX4_prepare_40 ?_
  refine r_put C fcX4 (f := 7) (by decide) rfl rfl rfl rfl k216 dX4_prepare_41 (w.mono fun h10 w => ?_)
  refine r_aload_n C dX4_prepare_44 rfl 0 rfl ?_
  refine r_iconst (v := 0) C dX4_prepare_45 rfl ?_
  refine r_put C fcX4 (f := 3) (by decide) rfl rfl rfl rfl k212 dX4_prepare_46 (w.mono fun h11 w => ?_)
  refine r_iconst (v := 0) C dX4_prepare_49 rfl ?_
  refine r_istore C dX4_prepare_50 (by decide) rfl ?_
  exact r_sub [1, 2, 3, 4, 0] rfl (g52 h11 l0 l1 l2 l3 (0 : Int32) w)
theorem eX4_prepare {E : EV} {post : Option AV → AH → Prop} {h : AH} {l0 : Option Nat} {l1 : Option Nat} {l2 : Option Nat} {l3 : Int32} {J52 : AH → Option Nat → Option Nat → Option Nat → Int32 → Int32 → Prop} (g52 : ∀ X : AX, Cb E X cX4_prepare RX4 9 rmX4_prepare → Cr E X none rmX4_prepare "prepare" post → ∀ (h : AH) (l0 : Option Nat) (l1 : Option Nat) (l2 : Option Nat) (l3 : Int32) (l4 : Int32), J52 h l0 l1 l2 l3 l4 → Go E X 9 0 0 52 [(0, aP l0), (1, aP l1), (2, aP l2), (3, aI l3), (4, aI l4)] [] h) (w : PX4_prepare_0 E post J52 h l0 l1 l2 l3) : sX4_prepare E [aP l0, aP l1, aP l2, aI l3] h post := Spec.of RX4 rfl rfl (Nat.le_of_ble_eq_true rfl) fun X C D => bX4_prepare_0 C D (g52 X C D) w
theorem dX5_areaTwice_0 : decode cX5_areaTwice 0 = .ok (.iconst 0, 1) := by decide +kernel
theorem dX5_areaTwice_1 : decode cX5_areaTwice 1 = .ok (.istore_n 1, 1) := by decide +kernel
theorem dX5_areaTwice_2 : decode cX5_areaTwice 2 = .ok (.iconst 0, 1) := by decide +kernel
theorem dX5_areaTwice_3 : decode cX5_areaTwice 3 = .ok (.istore_n 2, 1) := by decide +kernel
theorem dX5_areaTwice_4 : decode cX5_areaTwice 4 = .ok (.iload_n 2, 1) := by decide +kernel
theorem dX5_areaTwice_5 : decode cX5_areaTwice 5 = .ok (.aload_n 0, 1) := by decide +kernel
theorem dX5_areaTwice_6 : decode cX5_areaTwice 6 = .ok (.getfield 18, 3) := by decide +kernel
theorem dX5_areaTwice_9 : decode cX5_areaTwice 9 = .ok (.if_icmp .ge 39, 3) := by decide +kernel
theorem dX5_areaTwice_12 : decode cX5_areaTwice 12 = .ok (.iload_n 1, 1) := by decide +kernel
theorem dX5_areaTwice_13 : decode cX5_areaTwice 13 = .ok (.aload_n 0, 1) := by decide +kernel
theorem dX5_areaTwice_14 : decode cX5_areaTwice 14 = .ok (.iload_n 2, 1) := by decide +kernel
theorem dX5_areaTwice_15 : decode cX5_areaTwice 15 = .ok (.invokevirtual 25, 3) := by decide +kernel
theorem dX5_areaTwice_18 : decode cX5_areaTwice 18 = .ok (.aload_n 0, 1) := by decide +kernel
theorem dX5_areaTwice_19 : decode cX5_areaTwice 19 = .ok (.iload_n 2, 1) := by decide +kernel
theorem dX5_areaTwice_20 : decode cX5_areaTwice 20 = .ok (.iconst 1, 1) := by decide +kernel
theorem dX5_areaTwice_21 : decode cX5_areaTwice 21 = .ok (.iadd, 1) := by decide +kernel
theorem dX5_areaTwice_22 : decode cX5_areaTwice 22 = .ok (.invokevirtual 41, 3) := by decide +kernel
theorem dX5_areaTwice_25 : decode cX5_areaTwice 25 = .ok (.imul, 1) := by decide +kernel
theorem dX5_areaTwice_26 : decode cX5_areaTwice 26 = .ok (.aload_n 0, 1) := by decide +kernel
theorem dX5_areaTwice_27 : decode cX5_areaTwice 27 = .ok (.iload_n 2, 1) := by decide +kernel
theorem dX5_areaTwice_28 : decode cX5_areaTwice 28 = .ok (.iconst 1, 1) := by decide +kernel
theorem dX5_areaTwice_29 : decode cX5_areaTwice 29 = .ok (.iadd, 1) := by decide +kernel
theorem dX5_areaTwice_30 : decode cX5_areaTwice 30 = .ok (.invokevirtual 25, 3) := by decide +kernel
theorem dX5_areaTwice_33 : decode cX5_areaTwice 33 = .ok (.aload_n 0, 1) := by decide +kernel
theorem dX5_areaTwice_34 : decode cX5_areaTwice 34 = .ok (.iload_n 2, 1) := by decide +kernel
theorem dX5_areaTwice_35 : decode cX5_areaTwice 35 = .ok (.invokevirtual 41, 3) := by decide +kernel
theorem dX5_areaTwice_38 : decode cX5_areaTwice 38 = .ok (.imul, 1) := by decide +kernel
theorem dX5_areaTwice_39 : decode cX5_areaTwice 39 = .ok (.isub, 1) := by decide +kernel
theorem dX5_areaTwice_40 : decode cX5_areaTwice 40 = .ok (.iadd, 1) := by decide +kernel
theorem dX5_areaTwice_41 : decode cX5_areaTwice 41 = .ok (.istore_n 1, 1) := by decide +kernel
theorem dX5_areaTwice_42 : decode cX5_areaTwice 42 = .ok (.iinc 2 1, 3) := by decide +kernel
theorem dX5_areaTwice_45 : decode cX5_areaTwice 45 = .ok (.goto (-41), 3) := by decide +kernel
theorem dX5_areaTwice_48 : decode cX5_areaTwice 48 = .ok (.iload_n 1, 1) := by decide +kernel
theorem dX5_areaTwice_49 : decode cX5_areaTwice 49 = .ok (.ireturn, 1) := by decide +kernel
abbrev rmX5_areaTwice : Room := { frames := 1, cells := 0, slots := 0, locals := 40 }
abbrev sX5_areaTwice (E : EV) : List AV → AH → (Option AV → AH → Prop) → Prop := Spec E yX5_areaTwice cX5_areaTwice 3 (some .int) rmX5_areaTwice
theorem mX5_areaTwice : Mt yX5_areaTwice cX5_areaTwice 3 (some .int) 0 := ⟨k582, k5, by decide +kernel⟩
theorem vX5_areaTwice : MtV yX5_areaTwice 5 := ⟨k580, k581, by decide, (RX5, TX5, 8), rfl, rfl⟩
def PX5_areaTwice_4 (E : EV) (post : Option AV → AH → Prop) (J4 : AH → Option Nat → Int32 → Int32 → Prop) (h : AH) (l0 : Option Nat) (l1 : Int32) (l2 : Int32) : Prop :=
  rdI h l0 5 2 fun x1 => (x1 ≤ l2 → post (some (aI l1)) h) ∧ (¬ x1 ≤ l2 → CV (sX5_x E) l0 5 [aI l2] h (kI fun x2 h3 => CV (sX5_y E) l0 5 [aI (l2 + (1 : Int32))] h3 (kI fun x4 h5 => CV (sX5_x E) l0 5 [aI (l2 + (1 : Int32))] h5 (kI fun x6 h7 => CV (sX5_y E) l0 5 [aI l2] h7 (kI fun x8 h9 => ∀ v10, v10 = (l1 + ((x2 * x4) - (x6 * x8))) → J4 h9 l0 v10 (l2 + (1 : Int32)))))))
theorem bX5_areaTwice_4 {E : EV} {X : AX} {post : Option AV → AH → Prop} (C : Cb E X cX5_areaTwice RX5 3 rmX5_areaTwice) (D : Cr E X (some .int) rmX5_areaTwice "areaTwice" post) {J4 : AH → Option Nat → Int32 → Int32 → Prop} (g4 : ∀ (h : AH) (l0 : Option Nat) (l1 : Int32) (l2 : Int32), J4 h l0 l1 l2 → Go E X 3 0 0 4 [(0, aP l0), (1, aI l1), (2, aI l2)] [] h) {h : AH} {l0 : Option Nat} {l1 : Int32} {l2 : Int32} (w : PX5_areaTwice_4 E post J4 h l0 l1 l2) : Go E X 3 0 0 4 [(0, aP l0), (1, aI l1), (2, aI l2)] [] h := by
  unfold PX5_areaTwice_4 at w
  refine r_iload_n C dX5_areaTwice_4 rfl 2 rfl ?_
  refine r_aload_n C dX5_areaTwice_5 rfl 0 rfl ?_
  refine r_getI C fcX5 (f := 2) (by decide) rfl k108 dX5_areaTwice_6 (w.mono fun x1 w => ?_)
  refine r_icmp_ge C dX5_areaTwice_9 (tgt := 48) rfl (fun hc => ?_) (fun hc => ?_)
  · have w := w.1 hc
    refine r_iload_n C dX5_areaTwice_48 rfl 1 rfl ?_
    exact r_iret C D rfl (Nat.zero_le _) (Nat.zero_le _) dX5_areaTwice_49 w
  · have w := w.2 hc
    refine r_iload_n C dX5_areaTwice_12 rfl 1 rfl ?_
    refine r_aload_n C dX5_areaTwice_13 rfl 0 rfl ?_
    refine r_iload_n C dX5_areaTwice_14 rfl 2 rfl ?_
    refine r_cvI (rm' := rmX5_x) C mX5_x vX5_x k458 [aI l2] [aI l1] rfl rfl (Nat.le_of_ble_eq_true rfl) (by decide) ⟨Nat.zero_le _, Nat.zero_le _⟩ 0 0 rfl rfl dX5_areaTwice_15 w (fun x2 h3 w => ?_)
    refine r_aload_n C dX5_areaTwice_18 rfl 0 rfl ?_
    refine r_iload_n C dX5_areaTwice_19 rfl 2 rfl ?_
    refine r_iconst (v := 1) C dX5_areaTwice_20 rfl ?_
    refine r_iadd C dX5_areaTwice_21 ?_
    refine r_cvI (rm' := rmX5_y) C mX5_y vX5_y k467 [aI (l2 + (1 : Int32))] [aI x2, aI l1] rfl rfl (Nat.le_of_ble_eq_true rfl) (by decide) ⟨Nat.zero_le _, Nat.zero_le _⟩ 0 0 rfl rfl dX5_areaTwice_22 w (fun x4 h5 w => ?_)
    refine r_imul C dX5_areaTwice_25 ?_
    refine r_aload_n C dX5_areaTwice_26 rfl 0 rfl ?_
    refine r_iload_n C dX5_areaTwice_27 rfl 2 rfl ?_
    refine r_iconst (v := 1) C dX5_areaTwice_28 rfl ?_
    refine r_iadd C dX5_areaTwice_29 ?_
    refine r_cvI (rm' := rmX5_x) C mX5_x vX5_x k458 [aI (l2 + (1 : Int32))] [aI (x2 * x4), aI l1] rfl rfl (Nat.le_of_ble_eq_true rfl) (by decide) ⟨Nat.zero_le _, Nat.zero_le _⟩ 0 0 rfl rfl dX5_areaTwice_30 w (fun x6 h7 w => ?_)
    refine r_aload_n C dX5_areaTwice_33 rfl 0 rfl ?_
    refine r_iload_n C dX5_areaTwice_34 rfl 2 rfl ?_
    refine r_cvI (rm' := rmX5_y) C mX5_y vX5_y k467 [aI l2] [aI x6, aI (x2 * x4), aI l1] rfl rfl (Nat.le_of_ble_eq_true rfl) (by decide) ⟨Nat.zero_le _, Nat.zero_le _⟩ 0 0 rfl rfl dX5_areaTwice_35 w (fun x8 h9 w => ?_)
    refine r_imul C dX5_areaTwice_38 ?_
    refine r_isub C dX5_areaTwice_39 ?_
    refine r_iadd C dX5_areaTwice_40 ?_
    refine r_istore_n C dX5_areaTwice_41 rfl (by decide) rfl ?_
    have w := w _ rfl
    skip
    refine r_iinc C dX5_areaTwice_42 2 rfl (v := 1) rfl (by decide) rfl ?_
    refine r_goto C dX5_areaTwice_45 (tgt := 4) rfl ?_
    exact r_sub [2, 1, 0] rfl (g4 h9 l0 (l1 + ((x2 * x4) - (x6 * x8))) (l2 + (1 : Int32)) w)
theorem lpX5_areaTwice_4 {E : EV} {X : AX} {post : Option AV → AH → Prop} (C : Cb E X cX5_areaTwice RX5 3 rmX5_areaTwice) (D : Cr E X (some .int) rmX5_areaTwice "areaTwice" post) (I : Nat → AH → Option Nat → Int32 → Int32 → Prop) (step : ∀ (z : Nat) (h : AH) (l0 : Option Nat) (l1 : Int32) (l2 : Int32), I z h l0 l1 l2 → PX5_areaTwice_4 E post (fun h l0 l1 l2 => ∃ z', z' < z ∧ I z' h l0 l1 l2) h l0 l1 l2) : ∀ (z : Nat) (h : AH) (l0 : Option Nat) (l1 : Int32) (l2 : Int32), I z h l0 l1 l2 → Go E X 3 0 0 4 [(0, aP l0), (1, aI l1), (2, aI l2)] [] h := by
  intro z
  induction z using Nat.strongRecOn with
  | _ z ih =>
    intro h l0 l1 l2 hI
    exact bX5_areaTwice_4 C D (fun h l0 l1 l2 hJ => by obtain ⟨z', hz, hi⟩ := hJ; exact ih z' hz h l0 l1 l2 hi) (step z h l0 l1 l2 hI)
def PX5_areaTwice_0 (E : EV) (post : Option AV → AH → Prop) (J4 : AH → Option Nat → Int32 → Int32 → Prop) (h : AH) (l0 : Option Nat) : Prop :=
  J4 h l0 (0 : Int32) (0 : Int32)
theorem bX5_areaTwice_0 {E : EV} {X : AX} {post : Option AV → AH → Prop} (C : Cb E X cX5_areaTwice RX5 3 rmX5_areaTwice) (D : Cr E X (some .int) rmX5_areaTwice "areaTwice" post) {J4 : AH → Option Nat → Int32 → Int32 → Prop} (g4 : ∀ (h : AH) (l0 : Option Nat) (l1 : Int32) (l2 : Int32), J4 h l0 l1 l2 → Go E X 3 0 0 4 [(0, aP l0), (1, aI l1), (2, aI l2)] [] h) {h : AH} {l0 : Option Nat} (w : PX5_areaTwice_0 E post J4 h l0) : Go E X 3 0 0 0 [(0, aP l0)] [] h := by
  unfold PX5_areaTwice_0 at w
  refine r_iconst (v := 0) C dX5_areaTwice_0 rfl ?_
  refine r_istore_n C dX5_areaTwice_1 rfl (by decide) rfl ?_
  refine r_iconst (v := 0) C dX5_areaTwice_2 rfl ?_
  refine r_istore_n C dX5_areaTwice_3 rfl (by decide) rfl ?_
  exact r_sub [2, 1, 0] rfl (g4 h l0 (0 : Int32) (0 : Int32) w)
theorem eX5_areaTwice {E : EV} {post : Option AV → AH → Prop} {h : AH} {l0 : Option Nat} {J4 : AH → Option Nat → Int32 → Int32 → Prop} (g4 : ∀ X : AX, Cb E X cX5_areaTwice RX5 3 rmX5_areaTwice → Cr E X (some .int) rmX5_areaTwice "areaTwice" post → ∀ (h : AH) (l0 : Option Nat) (l1 : Int32) (l2 : Int32), J4 h l0 l1 l2 → Go E X 3 0 0 4 [(0, aP l0), (1, aI l1), (2, aI l2)] [] h) (w : PX5_areaTwice_0 E post J4 h l0) : sX5_areaTwice E [aP l0] h post := Spec.of RX5 rfl rfl (Nat.le_of_ble_eq_true rfl) fun X C D => bX5_areaTwice_0 C D (g4 X C D) w
theorem dX5_isConvex_0 : decode cX5_isConvex 0 = .ok (.iconst 0, 1) := by decide +kernel
theorem dX5_isConvex_1 : decode cX5_isConvex 1 = .ok (.istore_n 1, 1) := by decide +kernel
theorem dX5_isConvex_2 : decode cX5_isConvex 2 = .ok (.iload_n 1, 1) := by decide +kernel
theorem dX5_isConvex_3 : decode cX5_isConvex 3 = .ok (.aload_n 0, 1) := by decide +kernel
theorem dX5_isConvex_4 : decode cX5_isConvex 4 = .ok (.getfield 18, 3) := by decide +kernel
theorem dX5_isConvex_7 : decode cX5_isConvex 7 = .ok (.if_icmp .ge 73, 3) := by decide +kernel
theorem dX5_isConvex_10 : decode cX5_isConvex 10 = .ok (.iload_n 1, 1) := by decide +kernel
theorem dX5_isConvex_11 : decode cX5_isConvex 11 = .ok (.iconst 1, 1) := by decide +kernel
theorem dX5_isConvex_12 : decode cX5_isConvex 12 = .ok (.iadd, 1) := by decide +kernel
theorem dX5_isConvex_13 : decode cX5_isConvex 13 = .ok (.aload_n 0, 1) := by decide +kernel
theorem dX5_isConvex_14 : decode cX5_isConvex 14 = .ok (.getfield 18, 3) := by decide +kernel
theorem dX5_isConvex_17 : decode cX5_isConvex 17 = .ok (.if_icmp .ge 9, 3) := by decide +kernel
theorem dX5_isConvex_20 : decode cX5_isConvex 20 = .ok (.iload_n 1, 1) := by decide +kernel
theorem dX5_isConvex_21 : decode cX5_isConvex 21 = .ok (.iconst 1, 1) := by decide +kernel
theorem dX5_isConvex_22 : decode cX5_isConvex 22 = .ok (.iadd, 1) := by decide +kernel
theorem dX5_isConvex_23 : decode cX5_isConvex 23 = .ok (.goto 4, 3) := by decide +kernel
theorem dX5_isConvex_26 : decode cX5_isConvex 26 = .ok (.iconst 0, 1) := by decide +kernel
theorem dX5_isConvex_27 : decode cX5_isConvex 27 = .ok (.istore_n 2, 1) := by decide +kernel
theorem dX5_isConvex_28 : decode cX5_isConvex 28 = .ok (.iconst 0, 1) := by decide +kernel
theorem dX5_isConvex_29 : decode cX5_isConvex 29 = .ok (.istore_n 3, 1) := by decide +kernel
theorem dX5_isConvex_30 : decode cX5_isConvex 30 = .ok (.iload_n 3, 1) := by decide +kernel
theorem dX5_isConvex_31 : decode cX5_isConvex 31 = .ok (.aload_n 0, 1) := by decide +kernel
theorem dX5_isConvex_32 : decode cX5_isConvex 32 = .ok (.getfield 18, 3) := by decide +kernel
theorem dX5_isConvex_35 : decode cX5_isConvex 35 = .ok (.if_icmp .ge 39, 3) := by decide +kernel
theorem dX5_isConvex_38 : decode cX5_isConvex 38 = .ok (.iload_n 3, 1) := by decide +kernel
theorem dX5_isConvex_39 : decode cX5_isConvex 39 = .ok (.iload_n 1, 1) := by decide +kernel
theorem dX5_isConvex_40 : decode cX5_isConvex 40 = .ok (.if_icmp .eq 28, 3) := by decide +kernel
theorem dX5_isConvex_43 : decode cX5_isConvex 43 = .ok (.iload_n 3, 1) := by decide +kernel
theorem dX5_isConvex_44 : decode cX5_isConvex 44 = .ok (.iload_n 2, 1) := by decide +kernel
theorem dX5_isConvex_45 : decode cX5_isConvex 45 = .ok (.if_icmp .eq 23, 3) := by decide +kernel
theorem dX5_isConvex_48 : decode cX5_isConvex 48 = .ok (.aload_n 0, 1) := by decide +kernel
theorem dX5_isConvex_49 : decode cX5_isConvex 49 = .ok (.iload_n 1, 1) := by decide +kernel
theorem dX5_isConvex_50 : decode cX5_isConvex 50 = .ok (.aload_n 0, 1) := by decide +kernel
theorem dX5_isConvex_51 : decode cX5_isConvex 51 = .ok (.iload_n 3, 1) := by decide +kernel
theorem dX5_isConvex_52 : decode cX5_isConvex 52 = .ok (.invokevirtual 25, 3) := by decide +kernel
theorem dX5_isConvex_55 : decode cX5_isConvex 55 = .ok (.aload_n 0, 1) := by decide +kernel
theorem dX5_isConvex_56 : decode cX5_isConvex 56 = .ok (.iload_n 3, 1) := by decide +kernel
theorem dX5_isConvex_57 : decode cX5_isConvex 57 = .ok (.invokevirtual 41, 3) := by decide +kernel
theorem dX5_isConvex_60 : decode cX5_isConvex 60 = .ok (.invokevirtual 44, 3) := by decide +kernel
theorem dX5_isConvex_63 : decode cX5_isConvex 63 = .ok (.ifCond .gt 5, 3) := by decide +kernel
theorem dX5_isConvex_66 : decode cX5_isConvex 66 = .ok (.iconst 0, 1) := by decide +kernel
theorem dX5_isConvex_67 : decode cX5_isConvex 67 = .ok (.ireturn, 1) := by decide +kernel
theorem dX5_isConvex_68 : decode cX5_isConvex 68 = .ok (.iinc 3 1, 3) := by decide +kernel
theorem dX5_isConvex_71 : decode cX5_isConvex 71 = .ok (.goto (-41), 3) := by decide +kernel
theorem dX5_isConvex_74 : decode cX5_isConvex 74 = .ok (.iinc 1 1, 3) := by decide +kernel
theorem dX5_isConvex_77 : decode cX5_isConvex 77 = .ok (.goto (-75), 3) := by decide +kernel
theorem dX5_isConvex_80 : decode cX5_isConvex 80 = .ok (.aload_n 0, 1) := by decide +kernel
theorem dX5_isConvex_81 : decode cX5_isConvex 81 = .ok (.getfield 18, 3) := by decide +kernel
theorem dX5_isConvex_84 : decode cX5_isConvex 84 = .ok (.iconst 3, 1) := by decide +kernel
theorem dX5_isConvex_85 : decode cX5_isConvex 85 = .ok (.if_icmp .lt 7, 3) := by decide +kernel
theorem dX5_isConvex_88 : decode cX5_isConvex 88 = .ok (.iconst 1, 1) := by decide +kernel
theorem dX5_isConvex_89 : decode cX5_isConvex 89 = .ok (.goto 4, 3) := by decide +kernel
theorem dX5_isConvex_92 : decode cX5_isConvex 92 = .ok (.iconst 0, 1) := by decide +kernel
theorem dX5_isConvex_93 : decode cX5_isConvex 93 = .ok (.ireturn, 1) := by decide +kernel
abbrev rmX5_isConvex : Room := { frames := 2, cells := 0, slots := 0, locals := 80 }
abbrev sX5_isConvex (E : EV) : List AV → AH → (Option AV → AH → Prop) → Prop := Spec E yX5_isConvex cX5_isConvex 4 (some .boolean) rmX5_isConvex
theorem mX5_isConvex : Mt yX5_isConvex cX5_isConvex 4 (some .boolean) 0 := ⟨k741, k5, by decide +kernel⟩
theorem vX5_isConvex : MtV yX5_isConvex 5 := ⟨k739, k740, by decide, (RX5, TX5, 8), rfl, rfl⟩
def PX5_isConvex_30 (E : EV) (post : Option AV → AH → Prop) (J2 : AH → Option Nat → Int32 → Prop) (J30 : AH → Option Nat → Int32 → Int32 → Int32 → Prop) (h : AH) (l0 : Option Nat) (l1 : Int32) (l2 : Int32) (l3 : Int32) : Prop :=
  rdI h l0 5 2 fun x1 => (x1 ≤ l3 → J2 h l0 (l1 + (1 : Int32))) ∧ (¬ x1 ≤ l3 → (l3 = l1 → J30 h l0 l1 l2 (l3 + (1 : Int32))) ∧ (¬ l3 = l1 → (l3 = l2 → J30 h l0 l1 l2 (l3 + (1 : Int32))) ∧ (¬ l3 = l2 → CV (sX5_x E) l0 5 [aI l3] h (kI fun x2 h3 => CV (sX5_y E) l0 5 [aI l3] h3 (kI fun x4 h5 => CV (sX5_side E) l0 5 [aI l1, aI x2, aI x4] h5 (kI fun x6 h7 => (0 < x6 → J30 h7 l0 l1 l2 (l3 + (1 : Int32))) ∧ (¬ 0 < x6 → post (some (aI (0 : Int32))) h7)))))))
theorem bX5_isConvex_30 {E : EV} {X : AX} {post : Option AV → AH → Prop} (C : Cb E X cX5_isConvex RX5 4 rmX5_isConvex) (D : Cr E X (some .boolean) rmX5_isConvex "isConvex" post) {J2 : AH → Option Nat → Int32 → Prop} (g2 : ∀ (h : AH) (l0 : Option Nat) (l1 : Int32), J2 h l0 l1 → Go E X 4 0 0 2 [(0, aP l0), (1, aI l1)] [] h) {J30 : AH → Option Nat → Int32 → Int32 → Int32 → Prop} (g30 : ∀ (h : AH) (l0 : Option Nat) (l1 : Int32) (l2 : Int32) (l3 : Int32), J30 h l0 l1 l2 l3 → Go E X 4 0 0 30 [(0, aP l0), (1, aI l1), (2, aI l2), (3, aI l3)] [] h) {h : AH} {l0 : Option Nat} {l1 : Int32} {l2 : Int32} {l3 : Int32} (w : PX5_isConvex_30 E post J2 J30 h l0 l1 l2 l3) : Go E X 4 0 0 30 [(0, aP l0), (1, aI l1), (2, aI l2), (3, aI l3)] [] h := by
  unfold PX5_isConvex_30 at w
  refine r_iload_n C dX5_isConvex_30 rfl 3 rfl ?_
  refine r_aload_n C dX5_isConvex_31 rfl 0 rfl ?_
  refine r_getI C fcX5 (f := 2) (by decide) rfl k108 dX5_isConvex_32 (w.mono fun x1 w => ?_)
  refine r_icmp_ge C dX5_isConvex_35 (tgt := 74) rfl (fun hc => ?_) (fun hc => ?_)
  · have w := w.1 hc
    refine r_iinc C dX5_isConvex_74 1 rfl (v := 1) rfl (by decide) rfl ?_
    refine r_goto C dX5_isConvex_77 (tgt := 2) rfl ?_
    exact r_sub [1, 0] rfl (g2 h l0 (l1 + (1 : Int32)) w)
  · have w := w.2 hc
    refine r_iload_n C dX5_isConvex_38 rfl 3 rfl ?_
    refine r_iload_n C dX5_isConvex_39 rfl 1 rfl ?_
    refine r_icmp_eq C dX5_isConvex_40 (tgt := 68) rfl (fun hc => ?_) (fun hc => ?_)
    · have w := w.1 hc
      refine r_iinc C dX5_isConvex_68 3 rfl (v := 1) rfl (by decide) rfl ?_
      refine r_goto C dX5_isConvex_71 (tgt := 30) rfl ?_
      exact r_sub [1, 2, 3, 0] rfl (g30 h l0 l1 l2 (l3 + (1 : Int32)) w)
    · have w := w.2 hc
      refine r_iload_n C dX5_isConvex_43 rfl 3 rfl ?_
      refine r_iload_n C dX5_isConvex_44 rfl 2 rfl ?_
      refine r_icmp_eq C dX5_isConvex_45 (tgt := 68) rfl (fun hc => ?_) (fun hc => ?_)
      · have w := w.1 hc
        refine r_iinc C dX5_isConvex_68 3 rfl (v := 1) rfl (by decide) rfl ?_
        refine r_goto C dX5_isConvex_71 (tgt := 30) rfl ?_
        exact r_sub [1, 2, 3, 0] rfl (g30 h l0 l1 l2 (l3 + (1 : Int32)) w)
      · have w := w.2 hc
        refine r_aload_n C dX5_isConvex_48 rfl 0 rfl ?_
        refine r_iload_n C dX5_isConvex_49 rfl 1 rfl ?_
        refine r_aload_n C dX5_isConvex_50 rfl 0 rfl ?_
        refine r_iload_n C dX5_isConvex_51 rfl 3 rfl ?_
        refine r_cvI (rm' := rmX5_x) C mX5_x vX5_x k458 [aI l3] [aI l1, aP l0] rfl rfl (Nat.le_of_ble_eq_true rfl) (by decide) ⟨Nat.zero_le _, Nat.zero_le _⟩ 0 0 rfl rfl dX5_isConvex_52 w (fun x2 h3 w => ?_)
        refine r_aload_n C dX5_isConvex_55 rfl 0 rfl ?_
        refine r_iload_n C dX5_isConvex_56 rfl 3 rfl ?_
        refine r_cvI (rm' := rmX5_y) C mX5_y vX5_y k467 [aI l3] [aI x2, aI l1, aP l0] rfl rfl (Nat.le_of_ble_eq_true rfl) (by decide) ⟨Nat.zero_le _, Nat.zero_le _⟩ 0 0 rfl rfl dX5_isConvex_57 w (fun x4 h5 w => ?_)
        refine r_cvI (rm' := rmX5_side) C mX5_side vX5_side k483 [aI l1, aI x2, aI x4] [] rfl rfl (Nat.le_of_ble_eq_true rfl) (by decide) ⟨Nat.zero_le _, Nat.zero_le _⟩ 0 0 rfl rfl dX5_isConvex_60 w (fun x6 h7 w => ?_)
        refine r_if_gt C dX5_isConvex_63 (tgt := 68) rfl (fun hc => ?_) (fun hc => ?_)
        · have w := w.1 hc
          refine r_iinc C dX5_isConvex_68 3 rfl (v := 1) rfl (by decide) rfl ?_
          refine r_goto C dX5_isConvex_71 (tgt := 30) rfl ?_
          exact r_sub [1, 2, 3, 0] rfl (g30 h7 l0 l1 l2 (l3 + (1 : Int32)) w)
        · have w := w.2 hc
          refine r_iconst (v := 0) C dX5_isConvex_66 rfl ?_
          exact r_zret C D rfl (Or.inl rfl) (Nat.zero_le _) (Nat.zero_le _) dX5_isConvex_67 w
theorem lpX5_isConvex_30 {E : EV} {X : AX} {post : Option AV → AH → Prop} (C : Cb E X cX5_isConvex RX5 4 rmX5_isConvex) (D : Cr E X (some .boolean) rmX5_isConvex "isConvex" post) {J2 : AH → Option Nat → Int32 → Prop} (g2 : ∀ (h : AH) (l0 : Option Nat) (l1 : Int32), J2 h l0 l1 → Go E X 4 0 0 2 [(0, aP l0), (1, aI l1)] [] h) (I : Nat → AH → Option Nat → Int32 → Int32 → Int32 → Prop) (step : ∀ (z : Nat) (h : AH) (l0 : Option Nat) (l1 : Int32) (l2 : Int32) (l3 : Int32), I z h l0 l1 l2 l3 → PX5_isConvex_30 E post J2 (fun h l0 l1 l2 l3 => ∃ z', z' < z ∧ I z' h l0 l1 l2 l3) h l0 l1 l2 l3) : ∀ (z : Nat) (h : AH) (l0 : Option Nat) (l1 : Int32) (l2 : Int32) (l3 : Int32), I z h l0 l1 l2 l3 → Go E X 4 0 0 30 [(0, aP l0), (1, aI l1), (2, aI l2), (3, aI l3)] [] h := by
  intro z
  induction z using Nat.strongRecOn with
  | _ z ih =>
    intro h l0 l1 l2 l3 hI
    exact bX5_isConvex_30 C D g2 (fun h l0 l1 l2 l3 hJ => by obtain ⟨z', hz, hi⟩ := hJ; exact ih z' hz h l0 l1 l2 l3 hi) (step z h l0 l1 l2 l3 hI)
def PX5_isConvex_27 (E : EV) (post : Option AV → AH → Prop) (J30 : AH → Option Nat → Int32 → Int32 → Int32 → Prop) (h : AH) (l0 : Option Nat) (l1 : Int32) (s0 : Int32) : Prop :=
  J30 h l0 l1 s0 (0 : Int32)
theorem bX5_isConvex_27 {E : EV} {X : AX} {post : Option AV → AH → Prop} (C : Cb E X cX5_isConvex RX5 4 rmX5_isConvex) (D : Cr E X (some .boolean) rmX5_isConvex "isConvex" post) {J30 : AH → Option Nat → Int32 → Int32 → Int32 → Prop} (g30 : ∀ (h : AH) (l0 : Option Nat) (l1 : Int32) (l2 : Int32) (l3 : Int32), J30 h l0 l1 l2 l3 → Go E X 4 0 0 30 [(0, aP l0), (1, aI l1), (2, aI l2), (3, aI l3)] [] h) {h : AH} {l0 : Option Nat} {l1 : Int32} {s0 : Int32} (w : PX5_isConvex_27 E post J30 h l0 l1 s0) : Go E X 4 0 0 27 [(0, aP l0), (1, aI l1)] [aI s0] h := by
  unfold PX5_isConvex_27 at w
  refine r_istore_n C dX5_isConvex_27 rfl (by decide) rfl ?_
  refine r_iconst (v := 0) C dX5_isConvex_28 rfl ?_
  refine r_istore_n C dX5_isConvex_29 rfl (by decide) rfl ?_
  exact r_sub [2, 3, 1, 0] rfl (g30 h l0 l1 s0 (0 : Int32) w)
def PX5_isConvex_2 (E : EV) (post : Option AV → AH → Prop) (J30 : AH → Option Nat → Int32 → Int32 → Int32 → Prop) (h : AH) (l0 : Option Nat) (l1 : Int32) : Prop :=
  rdI h l0 5 2 fun x1 => (x1 ≤ l1 → rdI h l0 5 2 fun x2 => (x2 < (3 : Int32) → post (some (aI (0 : Int32))) h) ∧ (¬ x2 < (3 : Int32) → post (some (aI (1 : Int32))) h)) ∧ (¬ x1 ≤ l1 → rdI h l0 5 2 fun x2 => (x2 ≤ (l1 + (1 : Int32)) → PX5_isConvex_27 E post J30 h l0 l1 (0 : Int32)) ∧ (¬ x2 ≤ (l1 + (1 : Int32)) → PX5_isConvex_27 E post J30 h l0 l1 (l1 + (1 : Int32))))
theorem bX5_isConvex_2 {E : EV} {X : AX} {post : Option AV → AH → Prop} (C : Cb E X cX5_isConvex RX5 4 rmX5_isConvex) (D : Cr E X (some .boolean) rmX5_isConvex "isConvex" post) {J30 : AH → Option Nat → Int32 → Int32 → Int32 → Prop} (g30 : ∀ (h : AH) (l0 : Option Nat) (l1 : Int32) (l2 : Int32) (l3 : Int32), J30 h l0 l1 l2 l3 → Go E X 4 0 0 30 [(0, aP l0), (1, aI l1), (2, aI l2), (3, aI l3)] [] h) {h : AH} {l0 : Option Nat} {l1 : Int32} (w : PX5_isConvex_2 E post J30 h l0 l1) : Go E X 4 0 0 2 [(0, aP l0), (1, aI l1)] [] h := by
  unfold PX5_isConvex_2 at w
  refine r_iload_n C dX5_isConvex_2 rfl 1 rfl ?_
  refine r_aload_n C dX5_isConvex_3 rfl 0 rfl ?_
  refine r_getI C fcX5 (f := 2) (by decide) rfl k108 dX5_isConvex_4 (w.mono fun x1 w => ?_)
  refine r_icmp_ge C dX5_isConvex_7 (tgt := 80) rfl (fun hc => ?_) (fun hc => ?_)
  · have w := w.1 hc
    refine r_aload_n C dX5_isConvex_80 rfl 0 rfl ?_
    refine r_getI C fcX5 (f := 2) (by decide) rfl k108 dX5_isConvex_81 (w.mono fun x2 w => ?_)
    refine r_iconst (v := 3) C dX5_isConvex_84 rfl ?_
    refine r_icmp_lt C dX5_isConvex_85 (tgt := 92) rfl (fun hc => ?_) (fun hc => ?_)
    · have w := w.1 hc
      refine r_iconst (v := 0) C dX5_isConvex_92 rfl ?_
      exact r_zret C D rfl (Or.inl rfl) (Nat.zero_le _) (Nat.zero_le _) dX5_isConvex_93 w
    · have w := w.2 hc
      refine r_iconst (v := 1) C dX5_isConvex_88 rfl ?_
      refine r_goto C dX5_isConvex_89 (tgt := 93) rfl ?_
      exact r_zret C D rfl (Or.inr rfl) (Nat.zero_le _) (Nat.zero_le _) dX5_isConvex_93 w
  · have w := w.2 hc
    refine r_iload_n C dX5_isConvex_10 rfl 1 rfl ?_
    refine r_iconst (v := 1) C dX5_isConvex_11 rfl ?_
    refine r_iadd C dX5_isConvex_12 ?_
    refine r_aload_n C dX5_isConvex_13 rfl 0 rfl ?_
    refine r_getI C fcX5 (f := 2) (by decide) rfl k108 dX5_isConvex_14 (w.mono fun x2 w => ?_)
    refine r_icmp_ge C dX5_isConvex_17 (tgt := 26) rfl (fun hc => ?_) (fun hc => ?_)
    · have w := w.1 hc
      refine r_iconst (v := 0) C dX5_isConvex_26 rfl ?_
      exact (bX5_isConvex_27 C D g30 w)
    · have w := w.2 hc
      refine r_iload_n C dX5_isConvex_20 rfl 1 rfl ?_
      refine r_iconst (v := 1) C dX5_isConvex_21 rfl ?_
      refine r_iadd C dX5_isConvex_22 ?_
      refine r_goto C dX5_isConvex_23 (tgt := 27) rfl ?_
      exact (bX5_isConvex_27 C D g30 w)
def PX5_isConvex_0 (E : EV) (post : Option AV → AH → Prop) (J2 : AH → Option Nat → Int32 → Prop) (h : AH) (l0 : Option Nat) : Prop :=
  J2 h l0 (0 : Int32)
theorem bX5_isConvex_0 {E : EV} {X : AX} {post : Option AV → AH → Prop} (C : Cb E X cX5_isConvex RX5 4 rmX5_isConvex) (D : Cr E X (some .boolean) rmX5_isConvex "isConvex" post) {J2 : AH → Option Nat → Int32 → Prop} (g2 : ∀ (h : AH) (l0 : Option Nat) (l1 : Int32), J2 h l0 l1 → Go E X 4 0 0 2 [(0, aP l0), (1, aI l1)] [] h) {h : AH} {l0 : Option Nat} (w : PX5_isConvex_0 E post J2 h l0) : Go E X 4 0 0 0 [(0, aP l0)] [] h := by
  unfold PX5_isConvex_0 at w
  refine r_iconst (v := 0) C dX5_isConvex_0 rfl ?_
  refine r_istore_n C dX5_isConvex_1 rfl (by decide) rfl ?_
  exact r_sub [1, 0] rfl (g2 h l0 (0 : Int32) w)
theorem eX5_isConvex {E : EV} {post : Option AV → AH → Prop} {h : AH} {l0 : Option Nat} {J2 : AH → Option Nat → Int32 → Prop} (g2 : ∀ X : AX, Cb E X cX5_isConvex RX5 4 rmX5_isConvex → Cr E X (some .boolean) rmX5_isConvex "isConvex" post → ∀ (h : AH) (l0 : Option Nat) (l1 : Int32), J2 h l0 l1 → Go E X 4 0 0 2 [(0, aP l0), (1, aI l1)] [] h) (w : PX5_isConvex_0 E post J2 h l0) : sX5_isConvex E [aP l0] h post := Spec.of RX5 rfl rfl (Nat.le_of_ble_eq_true rfl) fun X C D => bX5_isConvex_0 C D (g2 X C D) w
theorem dX6_addVertex_0 : decode cX6_addVertex 0 = .ok (.aload_n 0, 1) := by decide +kernel
theorem dX6_addVertex_1 : decode cX6_addVertex 1 = .ok (.getfield 25, 3) := by decide +kernel
theorem dX6_addVertex_4 : decode cX6_addVertex 4 = .ok (.ifCond .lt 27, 3) := by decide +kernel
theorem dX6_addVertex_7 : decode cX6_addVertex 7 = .ok (.aload_n 0, 1) := by decide +kernel
theorem dX6_addVertex_8 : decode cX6_addVertex 8 = .ok (.getfield 25, 3) := by decide +kernel
theorem dX6_addVertex_11 : decode cX6_addVertex 11 = .ok (.aload_n 0, 1) := by decide +kernel
theorem dX6_addVertex_12 : decode cX6_addVertex 12 = .ok (.getfield 15, 3) := by decide +kernel
theorem dX6_addVertex_15 : decode cX6_addVertex 15 = .ok (.arraylength, 1) := by decide +kernel
theorem dX6_addVertex_16 : decode cX6_addVertex 16 = .ok (.if_icmp .ge 15, 3) := by decide +kernel
theorem dX6_addVertex_19 : decode cX6_addVertex 19 = .ok (.aload_n 0, 1) := by decide +kernel
theorem dX6_addVertex_20 : decode cX6_addVertex 20 = .ok (.getfield 25, 3) := by decide +kernel
theorem dX6_addVertex_23 : decode cX6_addVertex 23 = .ok (.aload_n 0, 1) := by decide +kernel
theorem dX6_addVertex_24 : decode cX6_addVertex 24 = .ok (.getfield 18, 3) := by decide +kernel
theorem dX6_addVertex_27 : decode cX6_addVertex 27 = .ok (.arraylength, 1) := by decide +kernel
theorem dX6_addVertex_28 : decode cX6_addVertex 28 = .ok (.if_icmp .lt 4, 3) := by decide +kernel
theorem dX6_addVertex_31 : decode cX6_addVertex 31 = .ok (.return_, 1) := by decide +kernel
theorem dX6_addVertex_32 : decode cX6_addVertex 32 = .ok (.aload_n 0, 1) := by decide +kernel
theorem dX6_addVertex_33 : decode cX6_addVertex 33 = .ok (.getfield 15, 3) := by decide +kernel
theorem dX6_addVertex_36 : decode cX6_addVertex 36 = .ok (.aload_n 0, 1) := by decide +kernel
theorem dX6_addVertex_37 : decode cX6_addVertex 37 = .ok (.getfield 25, 3) := by decide +kernel
theorem dX6_addVertex_40 : decode cX6_addVertex 40 = .ok (.iload_n 1, 1) := by decide +kernel
theorem dX6_addVertex_41 : decode cX6_addVertex 41 = .ok (.iastore, 1) := by decide +kernel
theorem dX6_addVertex_42 : decode cX6_addVertex 42 = .ok (.aload_n 0, 1) := by decide +kernel
theorem dX6_addVertex_43 : decode cX6_addVertex 43 = .ok (.getfield 18, 3) := by decide +kernel
theorem dX6_addVertex_46 : decode cX6_addVertex 46 = .ok (.aload_n 0, 1) := by decide +kernel
theorem dX6_addVertex_47 : decode cX6_addVertex 47 = .ok (.getfield 25, 3) := by decide +kernel
theorem dX6_addVertex_50 : decode cX6_addVertex 50 = .ok (.iload_n 2, 1) := by decide +kernel
theorem dX6_addVertex_51 : decode cX6_addVertex 51 = .ok (.iastore, 1) := by decide +kernel
theorem dX6_addVertex_52 : decode cX6_addVertex 52 = .ok (.aload_n 0, 1) := by decide +kernel
theorem dX6_addVertex_53 : decode cX6_addVertex 53 = .ok (.aload_n 0, 1) := by decide +kernel
theorem dX6_addVertex_54 : decode cX6_addVertex 54 = .ok (.getfield 25, 3) := by decide +kernel
theorem dX6_addVertex_57 : decode cX6_addVertex 57 = .ok (.ifCond .ne 7, 3) := by decide +kernel
theorem dX6_addVertex_60 : decode cX6_addVertex 60 = .ok (.iload_n 1, 1) := by decide +kernel
theorem dX6_addVertex_61 : decode cX6_addVertex 61 = .ok (.goto 11, 3) := by decide +kernel
theorem dX6_addVertex_64 : decode cX6_addVertex 64 = .ok (.aload_n 0, 1) := by decide +kernel
theorem dX6_addVertex_65 : decode cX6_addVertex 65 = .ok (.getfield 72, 3) := by decide +kernel
theorem dX6_addVertex_68 : decode cX6_addVertex 68 = .ok (.iload_n 1, 1) := by decide +kernel
theorem dX6_addVertex_69 : decode cX6_addVertex 69 = .ok (.invokestatic 75, 3) := by decide +kernel
theorem dX6_addVertex_72 : decode cX6_addVertex 72 = .ok (.putfield 72, 3) := by decide +kernel
theorem dX6_addVertex_75 : decode cX6_addVertex 75 = .ok (.aload_n 0, 1) := by decide +kernel
theorem dX6_addVertex_76 : decode cX6_addVertex 76 = .ok (.aload_n 0, 1) := by decide +kernel
theorem dX6_addVertex_77 : decode cX6_addVertex 77 = .ok (.getfield 25, 3) := by decide +kernel
theorem dX6_addVertex_80 : decode cX6_addVertex 80 = .ok (.ifCond .ne 7, 3) := by decide +kernel
theorem dX6_addVertex_83 : decode cX6_addVertex 83 = .ok (.iload_n 2, 1) := by decide +kernel
theorem dX6_addVertex_84 : decode cX6_addVertex 84 = .ok (.goto 11, 3) := by decide +kernel
theorem dX6_addVertex_87 : decode cX6_addVertex 87 = .ok (.aload_n 0, 1) := by decide +kernel
theorem dX6_addVertex_88 : decode cX6_addVertex 88 = .ok (.getfield 78, 3) := by decide +kernel
theorem dX6_addVertex_91 : decode cX6_addVertex 91 = .ok (.iload_n 2, 1) := by decide +kernel
theorem dX6_addVertex_92 : decode cX6_addVertex 92 = .ok (.invokestatic 75, 3) := by decide +kernel
theorem dX6_addVertex_95 : decode cX6_addVertex 95 = .ok (.putfield 78, 3) := by decide +kernel
theorem dX6_addVertex_98 : decode cX6_addVertex 98 = .ok (.aload_n 0, 1) := by decide +kernel
theorem dX6_addVertex_99 : decode cX6_addVertex 99 = .ok (.aload_n 0, 1) := by decide +kernel
theorem dX6_addVertex_100 : decode cX6_addVertex 100 = .ok (.getfield 25, 3) := by decide +kernel
theorem dX6_addVertex_103 : decode cX6_addVertex 103 = .ok (.ifCond .ne 7, 3) := by decide +kernel
theorem dX6_addVertex_106 : decode cX6_addVertex 106 = .ok (.iload_n 1, 1) := by decide +kernel
theorem dX6_addVertex_107 : decode cX6_addVertex 107 = .ok (.goto 11, 3) := by decide +kernel
theorem dX6_addVertex_110 : decode cX6_addVertex 110 = .ok (.aload_n 0, 1) := by decide +kernel
theorem dX6_addVertex_111 : decode cX6_addVertex 111 = .ok (.getfield 81, 3) := by decide +kernel
theorem dX6_addVertex_114 : decode cX6_addVertex 114 = .ok (.iload_n 1, 1) := by decide +kernel
theorem dX6_addVertex_115 : decode cX6_addVertex 115 = .ok (.invokestatic 66, 3) := by decide +kernel
theorem dX6_addVertex_118 : decode cX6_addVertex 118 = .ok (.putfield 81, 3) := by decide +kernel
theorem dX6_addVertex_121 : decode cX6_addVertex 121 = .ok (.aload_n 0, 1) := by decide +kernel
theorem dX6_addVertex_122 : decode cX6_addVertex 122 = .ok (.aload_n 0, 1) := by decide +kernel
theorem dX6_addVertex_123 : decode cX6_addVertex 123 = .ok (.getfield 25, 3) := by decide +kernel
theorem dX6_addVertex_126 : decode cX6_addVertex 126 = .ok (.ifCond .ne 7, 3) := by decide +kernel
theorem dX6_addVertex_129 : decode cX6_addVertex 129 = .ok (.iload_n 2, 1) := by decide +kernel
theorem dX6_addVertex_130 : decode cX6_addVertex 130 = .ok (.goto 11, 3) := by decide +kernel
theorem dX6_addVertex_133 : decode cX6_addVertex 133 = .ok (.aload_n 0, 1) := by decide +kernel
theorem dX6_addVertex_134 : decode cX6_addVertex 134 = .ok (.getfield 84, 3) := by decide +kernel
theorem dX6_addVertex_137 : decode cX6_addVertex 137 = .ok (.iload_n 2, 1) := by decide +kernel
theorem dX6_addVertex_138 : decode cX6_addVertex 138 = .ok (.invokestatic 66, 3) := by decide +kernel
theorem dX6_addVertex_141 : decode cX6_addVertex 141 = .ok (.putfield 84, 3) := by decide +kernel
theorem dX6_addVertex_144 : decode cX6_addVertex 144 = .ok (.aload_n 0, 1) := by decide +kernel
theorem dX6_addVertex_145 : decode cX6_addVertex 145 = .ok (.dup, 1) := by decide +kernel
theorem dX6_addVertex_146 : decode cX6_addVertex 146 = .ok (.getfield 25, 3) := by decide +kernel
theorem dX6_addVertex_149 : decode cX6_addVertex 149 = .ok (.iconst 1, 1) := by decide +kernel
theorem dX6_addVertex_150 : decode cX6_addVertex 150 = .ok (.iadd, 1) := by decide +kernel
theorem dX6_addVertex_151 : decode cX6_addVertex 151 = .ok (.putfield 25, 3) := by decide +kernel
theorem dX6_addVertex_154 : decode cX6_addVertex 154 = .ok (.return_, 1) := by decide +kernel
abbrev rmX6_addVertex : Room := { frames := 1, cells := 0, slots := 0, locals := 40 }
abbrev sX6_addVertex (E : EV) : List AV → AH → (Option AV → AH → Prop) → Prop := Spec E yX6_addVertex cX6_addVertex 3 none rmX6_addVertex
theorem mX6_addVertex : Mt yX6_addVertex cX6_addVertex 3 none 2 := ⟨k751, k2, by decide +kernel⟩
theorem vX6_addVertex : MtV yX6_addVertex 6 := ⟨k750, kp13, by decide, (RX6, TX6, 9), rfl, rfl⟩
def PX6_addVertex_141 (E : EV) (post : Option AV → AH → Prop) (h : AH) (l0 : Option Nat) (s0 : Option Nat) (s1 : Int32) : Prop :=
  wr h s0 6 8 (aI s1) fun h1 => rdI h1 l0 6 4 fun x2 => wr h1 l0 6 4 (aI (x2 + (1 : Int32))) fun h3 => post none h3
theorem bX6_addVertex_141 {E : EV} {X : AX} {post : Option AV → AH → Prop} (C : Cb E X cX6_addVertex RX6 3 rmX6_addVertex) (D : Cr E X none rmX6_addVertex "addVertex" post) {h : AH} {l0 : Option Nat} {s0 : Option Nat} {s1 : Int32} (w : PX6_addVertex_141 E post h l0 s0 s1) : Go E X 3 0 0 141 [(0, aP l0)] [aI s1, aP s0] h := by
  unfold PX6_addVertex_141 at w
  refine r_put C fcX6 (f := 8) (by decide) rfl rfl rfl rfl k45 dX6_addVertex_141 (w.mono fun h1 w => ?_)
  refine r_aload_n C dX6_addVertex_144 rfl 0 rfl ?_
  refine r_dup C dX6_addVertex_145 rfl ?_
  refine r_getI C fcX6 (f := 4) (by decide) rfl k34 dX6_addVertex_146 (w.mono fun x2 w => ?_)
  refine r_iconst (v := 1) C dX6_addVertex_149 rfl ?_
  refine r_iadd C dX6_addVertex_150 ?_
  refine r_put C fcX6 (f := 4) (by decide) rfl rfl rfl rfl k34 dX6_addVertex_151 (w.mono fun h3 w => ?_)
  exact r_vret C D rfl (Nat.zero_le _) (Nat.zero_le _) dX6_addVertex_154 w
def PX6_addVertex_118 (E : EV) (post : Option AV → AH → Prop) (h : AH) (l0 : Option Nat) (l2 : Int32) (s0 : Option Nat) (s1 : Int32) : Prop :=
  wr h s0 6 7 (aI s1) fun h1 => rdI h1 l0 6 4 fun x2 => (¬ x2 = 0 → rdI h1 l0 6 8 fun x3 => ∀ v4, v4 = (if x3 < l2 then l2 else x3) → PX6_addVertex_141 E post h1 l0 l0 v4) ∧ (x2 = 0 → PX6_addVertex_141 E post h1 l0 l0 l2)
theorem bX6_addVertex_118 {E : EV} {X : AX} {post : Option AV → AH → Prop} (C : Cb E X cX6_addVertex RX6 3 rmX6_addVertex) (D : Cr E X none rmX6_addVertex "addVertex" post) {h : AH} {l0 : Option Nat} {l2 : Int32} {s0 : Option Nat} {s1 : Int32} (w : PX6_addVertex_118 E post h l0 l2 s0 s1) : Go E X 3 0 0 118 [(0, aP l0), (2, aI l2)] [aI s1, aP s0] h := by
  unfold PX6_addVertex_118 at w
  refine r_put C fcX6 (f := 7) (by decide) rfl rfl rfl rfl k42 dX6_addVertex_118 (w.mono fun h1 w => ?_)
  refine r_aload_n C dX6_addVertex_121 rfl 0 rfl ?_
  refine r_aload_n C dX6_addVertex_122 rfl 0 rfl ?_
  refine r_getI C fcX6 (f := 4) (by decide) rfl k34 dX6_addVertex_123 (w.mono fun x2 w => ?_)
  refine r_if_ne C dX6_addVertex_126 (tgt := 133) rfl (fun hc => ?_) (fun hc => ?_)
  · have w := w.1 hc
    refine r_aload_n C dX6_addVertex_133 rfl 0 rfl ?_
    refine r_getI C fcX6 (f := 8) (by decide) rfl k45 dX6_addVertex_134 (w.mono fun x3 w => ?_)
    refine r_iload_n C dX6_addVertex_137 rfl 1 rfl ?_
    refine r_mmax C k604 k546 k12 k547 (by decide) (Nat.le_of_ble_eq_true rfl) (Nat.zero_le _) (Nat.zero_le _) dX6_addVertex_138 ?_
    have w := w _ rfl
    generalize (if x3 < l2 then l2 else x3) = v4 at w ⊢
    exact r_sub [0] rfl (bX6_addVertex_141 C D w)
  · have w := w.2 hc
    refine r_iload_n C dX6_addVertex_129 rfl 1 rfl ?_
    refine r_goto C dX6_addVertex_130 (tgt := 141) rfl ?_
    exact r_sub [0] rfl (bX6_addVertex_141 C D w)
def PX6_addVertex_95 (E : EV) (post : Option AV → AH → Prop) (h : AH) (l0 : Option Nat) (l1 : Int32) (l2 : Int32) (s0 : Option Nat) (s1 : Int32) : Prop :=
  wr h s0 6 6 (aI s1) fun h1 => rdI h1 l0 6 4 fun x2 => (¬ x2 = 0 → rdI h1 l0 6 7 fun x3 => ∀ v4, v4 = (if x3 < l1 then l1 else x3) → PX6_addVertex_118 E post h1 l0 l2 l0 v4) ∧ (x2 = 0 → PX6_addVertex_118 E post h1 l0 l2 l0 l1)
theorem bX6_addVertex_95 {E : EV} {X : AX} {post : Option AV → AH → Prop} (C : Cb E X cX6_addVertex RX6 3 rmX6_addVertex) (D : Cr E X none rmX6_addVertex "addVertex" post) {h : AH} {l0 : Option Nat} {l1 : Int32} {l2 : Int32} {s0 : Option Nat} {s1 : Int32} (w : PX6_addVertex_95 E post h l0 l1 l2 s0 s1) : Go E X 3 0 0 95 [(0, aP l0), (1, aI l1), (2, aI l2)] [aI s1, aP s0] h := by
  unfold PX6_addVertex_95 at w
  refine r_put C fcX6 (f := 6) (by decide) rfl rfl rfl rfl k39 dX6_addVertex_95 (w.mono fun h1 w => ?_)
  refine r_aload_n C dX6_addVertex_98 rfl 0 rfl ?_
  refine r_aload_n C dX6_addVertex_99 rfl 0 rfl ?_
  refine r_getI C fcX6 (f := 4) (by decide) rfl k34 dX6_addVertex_100 (w.mono fun x2 w => ?_)
  refine r_if_ne C dX6_addVertex_103 (tgt := 110) rfl (fun hc => ?_) (fun hc => ?_)
  · have w := w.1 hc
    refine r_aload_n C dX6_addVertex_110 rfl 0 rfl ?_
    refine r_getI C fcX6 (f := 7) (by decide) rfl k42 dX6_addVertex_111 (w.mono fun x3 w => ?_)
    refine r_iload_n C dX6_addVertex_114 rfl 1 rfl ?_
    refine r_mmax C k604 k546 k12 k547 (by decide) (Nat.le_of_ble_eq_true rfl) (Nat.zero_le _) (Nat.zero_le _) dX6_addVertex_115 ?_
    have w := w _ rfl
    generalize (if x3 < l1 then l1 else x3) = v4 at w ⊢
    exact r_sub [0, 2] rfl (bX6_addVertex_118 C D w)
  · have w := w.2 hc
    refine r_iload_n C dX6_addVertex_106 rfl 1 rfl ?_
    refine r_goto C dX6_addVertex_107 (tgt := 118) rfl ?_
    exact r_sub [0, 2] rfl (bX6_addVertex_118 C D w)
def PX6_addVertex_72 (E : EV) (post : Option AV → AH → Prop) (h : AH) (l0 : Option Nat) (l1 : Int32) (l2 : Int32) (s0 : Option Nat) (s1 : Int32) : Prop :=
  wr h s0 6 5 (aI s1) fun h1 => rdI h1 l0 6 4 fun x2 => (¬ x2 = 0 → rdI h1 l0 6 6 fun x3 => ∀ v4, v4 = (if l2 < x3 then l2 else x3) → PX6_addVertex_95 E post h1 l0 l1 l2 l0 v4) ∧ (x2 = 0 → PX6_addVertex_95 E post h1 l0 l1 l2 l0 l2)
theorem bX6_addVertex_72 {E : EV} {X : AX} {post : Option AV → AH → Prop} (C : Cb E X cX6_addVertex RX6 3 rmX6_addVertex) (D : Cr E X none rmX6_addVertex "addVertex" post) {h : AH} {l0 : Option Nat} {l1 : Int32} {l2 : Int32} {s0 : Option Nat} {s1 : Int32} (w : PX6_addVertex_72 E post h l0 l1 l2 s0 s1) : Go E X 3 0 0 72 [(0, aP l0), (1, aI l1), (2, aI l2)] [aI s1, aP s0] h := by
  unfold PX6_addVertex_72 at w
  refine r_put C fcX6 (f := 5) (by decide) rfl rfl rfl rfl k36 dX6_addVertex_72 (w.mono fun h1 w => ?_)
  refine r_aload_n C dX6_addVertex_75 rfl 0 rfl ?_
  refine r_aload_n C dX6_addVertex_76 rfl 0 rfl ?_
  refine r_getI C fcX6 (f := 4) (by decide) rfl k34 dX6_addVertex_77 (w.mono fun x2 w => ?_)
  refine r_if_ne C dX6_addVertex_80 (tgt := 87) rfl (fun hc => ?_) (fun hc => ?_)
  · have w := w.1 hc
    refine r_aload_n C dX6_addVertex_87 rfl 0 rfl ?_
    refine r_getI C fcX6 (f := 6) (by decide) rfl k39 dX6_addVertex_88 (w.mono fun x3 w => ?_)
    refine r_iload_n C dX6_addVertex_91 rfl 2 rfl ?_
    refine r_mmin C k752 k543 k12 k544 (by decide) (Nat.le_of_ble_eq_true rfl) (Nat.zero_le _) (Nat.zero_le _) dX6_addVertex_92 ?_
    have w := w _ rfl
    generalize (if l2 < x3 then l2 else x3) = v4 at w ⊢
    exact (bX6_addVertex_95 C D w)
  · have w := w.2 hc
    refine r_iload_n C dX6_addVertex_83 rfl 2 rfl ?_
    refine r_goto C dX6_addVertex_84 (tgt := 95) rfl ?_
    exact (bX6_addVertex_95 C D w)
def PX6_addVertex_0 (E : EV) (post : Option AV → AH → Prop) (h : AH) (l0 : Option Nat) (l1 : Int32) (l2 : Int32) : Prop :=
  rdI h l0 6 4 fun x1 => (x1 < 0 → post none h) ∧ (¬ x1 < 0 → rdI h l0 6 4 fun x2 => rdP h l0 6 1 fun x3 => alenI h x3 0 fun x4 => (x4 ≤ x2 → post none h) ∧ (¬ x4 ≤ x2 → rdI h l0 6 4 fun x5 => rdP h l0 6 2 fun x6 => alenI h x6 0 fun x7 => (x5 < x7 → rdP h l0 6 1 fun x8 => rdI h l0 6 4 fun x9 => astI h x8 0 x9 l1 fun h10 => rdP h10 l0 6 2 fun x11 => rdI h10 l0 6 4 fun x12 => astI h10 x11 0 x12 l2 fun h13 => rdI h13 l0 6 4 fun x14 => (¬ x14 = 0 → rdI h13 l0 6 5 fun x15 => ∀ v16, v16 = (if l1 < x15 then l1 else x15) → PX6_addVertex_72 E post h13 l0 l1 l2 l0 v16) ∧ (x14 = 0 → PX6_addVertex_72 E post h13 l0 l1 l2 l0 l1)) ∧ (¬ x5 < x7 → post none h)))
theorem bX6_addVertex_0 {E : EV} {X : AX} {post : Option AV → AH → Prop} (C : Cb E X cX6_addVertex RX6 3 rmX6_addVertex) (D : Cr E X none rmX6_addVertex "addVertex" post) {h : AH} {l0 : Option Nat} {l1 : Int32} {l2 : Int32} (w : PX6_addVertex_0 E post h l0 l1 l2) : Go E X 3 0 0 0 [(0, aP l0), (1, aI l1), (2, aI l2)] [] h := by
  unfold PX6_addVertex_0 at w
  refine r_aload_n C dX6_addVertex_0 rfl 0 rfl ?_
  refine r_getI C fcX6 (f := 4) (by decide) rfl k34 dX6_addVertex_1 (w.mono fun x1 w => ?_)
  refine r_if_lt C dX6_addVertex_4 (tgt := 31) rfl (fun hc => ?_) (fun hc => ?_)
  · have w := w.1 hc
    exact r_vret C D rfl (Nat.zero_le _) (Nat.zero_le _) dX6_addVertex_31 w
  · have w := w.2 hc
    refine r_aload_n C dX6_addVertex_7 rfl 0 rfl ?_
    refine r_getI C fcX6 (f := 4) (by decide) rfl k34 dX6_addVertex_8 (w.mono fun x2 w => ?_)
    refine r_aload_n C dX6_addVertex_11 rfl 0 rfl ?_
    refine r_getP C fcX6 (f := 1) (by decide) rfl k28 dX6_addVertex_12 (w.mono fun x3 w => ?_)
    refine r_alenI 0 0 rfl C dX6_addVertex_15 (w.mono fun x4 w => ?_)
    refine r_icmp_ge C dX6_addVertex_16 (tgt := 31) rfl (fun hc => ?_) (fun hc => ?_)
    · have w := w.1 hc
      exact r_vret C D rfl (Nat.zero_le _) (Nat.zero_le _) dX6_addVertex_31 w
    · have w := w.2 hc
      refine r_aload_n C dX6_addVertex_19 rfl 0 rfl ?_
      refine r_getI C fcX6 (f := 4) (by decide) rfl k34 dX6_addVertex_20 (w.mono fun x5 w => ?_)
      refine r_aload_n C dX6_addVertex_23 rfl 0 rfl ?_
      refine r_getP C fcX6 (f := 2) (by decide) rfl k29 dX6_addVertex_24 (w.mono fun x6 w => ?_)
      refine r_alenI 0 0 rfl C dX6_addVertex_27 (w.mono fun x7 w => ?_)
      refine r_icmp_lt C dX6_addVertex_28 (tgt := 32) rfl (fun hc => ?_) (fun hc => ?_)
      · have w := w.1 hc
        refine r_aload_n C dX6_addVertex_32 rfl 0 rfl ?_
        refine r_getP C fcX6 (f := 1) (by decide) rfl k28 dX6_addVertex_33 (w.mono fun x8 w => ?_)
        refine r_aload_n C dX6_addVertex_36 rfl 0 rfl ?_
        refine r_getI C fcX6 (f := 4) (by decide) rfl k34 dX6_addVertex_37 (w.mono fun x9 w => ?_)
        refine r_iload_n C dX6_addVertex_40 rfl 1 rfl ?_
        refine r_iast C dX6_addVertex_41 (w.mono fun h10 w => ?_)
        refine r_aload_n C dX6_addVertex_42 rfl 0 rfl ?_
        refine r_getP C fcX6 (f := 2) (by decide) rfl k29 dX6_addVertex_43 (w.mono fun x11 w => ?_)
        refine r_aload_n C dX6_addVertex_46 rfl 0 rfl ?_
        refine r_getI C fcX6 (f := 4) (by decide) rfl k34 dX6_addVertex_47 (w.mono fun x12 w => ?_)
        refine r_iload_n C dX6_addVertex_50 rfl 2 rfl ?_
        refine r_iast C dX6_addVertex_51 (w.mono fun h13 w => ?_)
        refine r_aload_n C dX6_addVertex_52 rfl 0 rfl ?_
        refine r_aload_n C dX6_addVertex_53 rfl 0 rfl ?_
        refine r_getI C fcX6 (f := 4) (by decide) rfl k34 dX6_addVertex_54 (w.mono fun x14 w => ?_)
        refine r_if_ne C dX6_addVertex_57 (tgt := 64) rfl (fun hc => ?_) (fun hc => ?_)
        · have w := w.1 hc
          refine r_aload_n C dX6_addVertex_64 rfl 0 rfl ?_
          refine r_getI C fcX6 (f := 5) (by decide) rfl k36 dX6_addVertex_65 (w.mono fun x15 w => ?_)
          refine r_iload_n C dX6_addVertex_68 rfl 1 rfl ?_
          refine r_mmin C k752 k543 k12 k544 (by decide) (Nat.le_of_ble_eq_true rfl) (Nat.zero_le _) (Nat.zero_le _) dX6_addVertex_69 ?_
          have w := w _ rfl
          generalize (if l1 < x15 then l1 else x15) = v16 at w ⊢
          exact (bX6_addVertex_72 C D w)
        · have w := w.2 hc
          refine r_iload_n C dX6_addVertex_60 rfl 1 rfl ?_
          refine r_goto C dX6_addVertex_61 (tgt := 72) rfl ?_
          exact (bX6_addVertex_72 C D w)
      · have w := w.2 hc
        exact r_vret C D rfl (Nat.zero_le _) (Nat.zero_le _) dX6_addVertex_31 w
theorem eX6_addVertex {E : EV} {post : Option AV → AH → Prop} {h : AH} {l0 : Option Nat} {l1 : Int32} {l2 : Int32} (w : PX6_addVertex_0 E post h l0 l1 l2) : sX6_addVertex E [aP l0, aI l1, aI l2] h post := Spec.of RX6 rfl rfl (Nat.le_of_ble_eq_true rfl) fun X C D => bX6_addVertex_0 C D w
theorem dX6_endPiece_0 : decode cX6_endPiece 0 = .ok (.aload_n 0, 1) := by decide +kernel
theorem dX6_endPiece_1 : decode cX6_endPiece 1 = .ok (.getfield 21, 3) := by decide +kernel
theorem dX6_endPiece_4 : decode cX6_endPiece 4 = .ok (.ifCond .lt 40, 3) := by decide +kernel
theorem dX6_endPiece_7 : decode cX6_endPiece 7 = .ok (.aload_n 0, 1) := by decide +kernel
theorem dX6_endPiece_8 : decode cX6_endPiece 8 = .ok (.getfield 21, 3) := by decide +kernel
theorem dX6_endPiece_11 : decode cX6_endPiece 11 = .ok (.aload_n 0, 1) := by decide +kernel
theorem dX6_endPiece_12 : decode cX6_endPiece 12 = .ok (.getfield 9, 3) := by decide +kernel
theorem dX6_endPiece_15 : decode cX6_endPiece 15 = .ok (.arraylength, 1) := by decide +kernel
theorem dX6_endPiece_16 : decode cX6_endPiece 16 = .ok (.iconst 1, 1) := by decide +kernel
theorem dX6_endPiece_17 : decode cX6_endPiece 17 = .ok (.isub, 1) := by decide +kernel
theorem dX6_endPiece_18 : decode cX6_endPiece 18 = .ok (.if_icmp .ge 26, 3) := by decide +kernel
theorem dX6_endPiece_21 : decode cX6_endPiece 21 = .ok (.aload_n 0, 1) := by decide +kernel
theorem dX6_endPiece_22 : decode cX6_endPiece 22 = .ok (.dup, 1) := by decide +kernel
theorem dX6_endPiece_23 : decode cX6_endPiece 23 = .ok (.getfield 21, 3) := by decide +kernel
theorem dX6_endPiece_26 : decode cX6_endPiece 26 = .ok (.iconst 1, 1) := by decide +kernel
theorem dX6_endPiece_27 : decode cX6_endPiece 27 = .ok (.iadd, 1) := by decide +kernel
theorem dX6_endPiece_28 : decode cX6_endPiece 28 = .ok (.putfield 21, 3) := by decide +kernel
theorem dX6_endPiece_31 : decode cX6_endPiece 31 = .ok (.aload_n 0, 1) := by decide +kernel
theorem dX6_endPiece_32 : decode cX6_endPiece 32 = .ok (.getfield 9, 3) := by decide +kernel
theorem dX6_endPiece_35 : decode cX6_endPiece 35 = .ok (.aload_n 0, 1) := by decide +kernel
theorem dX6_endPiece_36 : decode cX6_endPiece 36 = .ok (.getfield 21, 3) := by decide +kernel
theorem dX6_endPiece_39 : decode cX6_endPiece 39 = .ok (.aload_n 0, 1) := by decide +kernel
theorem dX6_endPiece_40 : decode cX6_endPiece 40 = .ok (.getfield 25, 3) := by decide +kernel
theorem dX6_endPiece_43 : decode cX6_endPiece 43 = .ok (.iastore, 1) := by decide +kernel
theorem dX6_endPiece_44 : decode cX6_endPiece 44 = .ok (.return_, 1) := by decide +kernel
abbrev rmX6_endPiece : Room := { frames := 0, cells := 0, slots := 0, locals := 0 }
abbrev sX6_endPiece (E : EV) : List AV → AH → (Option AV → AH → Prop) → Prop := Spec E yX6_endPiece cX6_endPiece 1 none rmX6_endPiece
theorem mX6_endPiece : Mt yX6_endPiece cX6_endPiece 1 none 0 := ⟨k756, k2, by decide +kernel⟩
theorem vX6_endPiece : MtV yX6_endPiece 6 := ⟨k755, kp14, by decide, (RX6, TX6, 9), rfl, rfl⟩
def PX6_endPiece_0 (E : EV) (post : Option AV → AH → Prop) (h : AH) (l0 : Option Nat) : Prop :=
  rdI h l0 6 3 fun x1 => (x1 < 0 → post none h) ∧ (¬ x1 < 0 → rdI h l0 6 3 fun x2 => rdP h l0 6 0 fun x3 => alenI h x3 0 fun x4 => ((x4 - (1 : Int32)) ≤ x2 → post none h) ∧ (¬ (x4 - (1 : Int32)) ≤ x2 → rdI h l0 6 3 fun x5 => wr h l0 6 3 (aI (x5 + (1 : Int32))) fun h6 => rdP h6 l0 6 0 fun x7 => rdI h6 l0 6 3 fun x8 => rdI h6 l0 6 4 fun x9 => astI h6 x7 0 x8 x9 fun h10 => post none h10))
theorem bX6_endPiece_0 {E : EV} {X : AX} {post : Option AV → AH → Prop} (C : Cb E X cX6_endPiece RX6 1 rmX6_endPiece) (D : Cr E X none rmX6_endPiece "endPiece" post) {h : AH} {l0 : Option Nat} (w : PX6_endPiece_0 E post h l0) : Go E X 1 0 0 0 [(0, aP l0)] [] h := by
  unfold PX6_endPiece_0 at w
  refine r_aload_n C dX6_endPiece_0 rfl 0 rfl ?_
  refine r_getI C fcX6 (f := 3) (by decide) rfl k30 dX6_endPiece_1 (w.mono fun x1 w => ?_)
  refine r_if_lt C dX6_endPiece_4 (tgt := 44) rfl (fun hc => ?_) (fun hc => ?_)
  · have w := w.1 hc
    exact r_vret C D rfl (Nat.zero_le _) (Nat.zero_le _) dX6_endPiece_44 w
  · have w := w.2 hc
    refine r_aload_n C dX6_endPiece_7 rfl 0 rfl ?_
    refine r_getI C fcX6 (f := 3) (by decide) rfl k30 dX6_endPiece_8 (w.mono fun x2 w => ?_)
    refine r_aload_n C dX6_endPiece_11 rfl 0 rfl ?_
    refine r_getP C fcX6 (f := 0) (by decide) rfl k27 dX6_endPiece_12 (w.mono fun x3 w => ?_)
    refine r_alenI 0 0 rfl C dX6_endPiece_15 (w.mono fun x4 w => ?_)
    refine r_iconst (v := 1) C dX6_endPiece_16 rfl ?_
    refine r_isub C dX6_endPiece_17 ?_
    refine r_icmp_ge C dX6_endPiece_18 (tgt := 44) rfl (fun hc => ?_) (fun hc => ?_)
    · have w := w.1 hc
      exact r_vret C D rfl (Nat.zero_le _) (Nat.zero_le _) dX6_endPiece_44 w
    · have w := w.2 hc
      refine r_aload_n C dX6_endPiece_21 rfl 0 rfl ?_
      refine r_dup C dX6_endPiece_22 rfl ?_
      refine r_getI C fcX6 (f := 3) (by decide) rfl k30 dX6_endPiece_23 (w.mono fun x5 w => ?_)
      refine r_iconst (v := 1) C dX6_endPiece_26 rfl ?_
      refine r_iadd C dX6_endPiece_27 ?_
      refine r_put C fcX6 (f := 3) (by decide) rfl rfl rfl rfl k30 dX6_endPiece_28 (w.mono fun h6 w => ?_)
      refine r_aload_n C dX6_endPiece_31 rfl 0 rfl ?_
      refine r_getP C fcX6 (f := 0) (by decide) rfl k27 dX6_endPiece_32 (w.mono fun x7 w => ?_)
      refine r_aload_n C dX6_endPiece_35 rfl 0 rfl ?_
      refine r_getI C fcX6 (f := 3) (by decide) rfl k30 dX6_endPiece_36 (w.mono fun x8 w => ?_)
      refine r_aload_n C dX6_endPiece_39 rfl 0 rfl ?_
      refine r_getI C fcX6 (f := 4) (by decide) rfl k34 dX6_endPiece_40 (w.mono fun x9 w => ?_)
      refine r_iast C dX6_endPiece_43 (w.mono fun h10 w => ?_)
      exact r_vret C D rfl (Nat.zero_le _) (Nat.zero_le _) dX6_endPiece_44 w
theorem eX6_endPiece {E : EV} {post : Option AV → AH → Prop} {h : AH} {l0 : Option Nat} (w : PX6_endPiece_0 E post h l0) : sX6_endPiece E [aP l0] h post := Spec.of RX6 rfl rfl (Nat.le_of_ble_eq_true rfl) fun X C D => bX6_endPiece_0 C D w
theorem dX6_addPiece_0 : decode cX6_addPiece 0 = .ok (.iconst 0, 1) := by decide +kernel
theorem dX6_addPiece_1 : decode cX6_addPiece 1 = .ok (.istore_n 2, 1) := by decide +kernel
theorem dX6_addPiece_2 : decode cX6_addPiece 2 = .ok (.iload_n 2, 1) := by decide +kernel
theorem dX6_addPiece_3 : decode cX6_addPiece 3 = .ok (.aload_n 1, 1) := by decide +kernel
theorem dX6_addPiece_4 : decode cX6_addPiece 4 = .ok (.getfield 28, 3) := by decide +kernel
theorem dX6_addPiece_7 : decode cX6_addPiece 7 = .ok (.if_icmp .ge 23, 3) := by decide +kernel
theorem dX6_addPiece_10 : decode cX6_addPiece 10 = .ok (.aload_n 0, 1) := by decide +kernel
theorem dX6_addPiece_11 : decode cX6_addPiece 11 = .ok (.aload_n 1, 1) := by decide +kernel
theorem dX6_addPiece_12 : decode cX6_addPiece 12 = .ok (.iload_n 2, 1) := by decide +kernel
theorem dX6_addPiece_13 : decode cX6_addPiece 13 = .ok (.invokevirtual 33, 3) := by decide +kernel
theorem dX6_addPiece_16 : decode cX6_addPiece 16 = .ok (.aload_n 1, 1) := by decide +kernel
theorem dX6_addPiece_17 : decode cX6_addPiece 17 = .ok (.iload_n 2, 1) := by decide +kernel
theorem dX6_addPiece_18 : decode cX6_addPiece 18 = .ok (.invokevirtual 37, 3) := by decide +kernel
theorem dX6_addPiece_21 : decode cX6_addPiece 21 = .ok (.invokevirtual 40, 3) := by decide +kernel
theorem dX6_addPiece_24 : decode cX6_addPiece 24 = .ok (.iinc 2 1, 3) := by decide +kernel
theorem dX6_addPiece_27 : decode cX6_addPiece 27 = .ok (.goto (-25), 3) := by decide +kernel
theorem dX6_addPiece_30 : decode cX6_addPiece 30 = .ok (.aload_n 0, 1) := by decide +kernel
theorem dX6_addPiece_31 : decode cX6_addPiece 31 = .ok (.invokevirtual 44, 3) := by decide +kernel
theorem dX6_addPiece_34 : decode cX6_addPiece 34 = .ok (.return_, 1) := by decide +kernel
abbrev rmX6_addPiece : Room := { frames := 2, cells := 0, slots := 0, locals := 80 }
abbrev sX6_addPiece (E : EV) : List AV → AH → (Option AV → AH → Prop) → Prop := Spec E yX6_addPiece cX6_addPiece 3 none rmX6_addPiece
theorem mX6_addPiece : Mt yX6_addPiece cX6_addPiece 3 none 1 := ⟨k745, k2, by decide +kernel⟩
theorem vX6_addPiece : MtV yX6_addPiece 6 := ⟨k743, k744, by decide, (RX6, TX6, 9), rfl, rfl⟩
def PX6_addPiece_2 (E : EV) (post : Option AV → AH → Prop) (J2 : AH → Option Nat → Option Nat → Int32 → Prop) (h : AH) (l0 : Option Nat) (l1 : Option Nat) (l2 : Int32) : Prop :=
  rdI h l1 5 2 fun x1 => (x1 ≤ l2 → CV (sX6_endPiece E) l0 6 [] h (kV fun h3 => post none h3)) ∧ (¬ x1 ≤ l2 → CV (sX5_x E) l1 5 [aI l2] h (kI fun x2 h3 => CV (sX5_y E) l1 5 [aI l2] h3 (kI fun x4 h5 => CV (sX6_addVertex E) l0 6 [aI x2, aI x4] h5 (kV fun h7 => J2 h7 l0 l1 (l2 + (1 : Int32))))))
theorem bX6_addPiece_2 {E : EV} {X : AX} {post : Option AV → AH → Prop} (C : Cb E X cX6_addPiece RX6 3 rmX6_addPiece) (D : Cr E X none rmX6_addPiece "addPiece" post) {J2 : AH → Option Nat → Option Nat → Int32 → Prop} (g2 : ∀ (h : AH) (l0 : Option Nat) (l1 : Option Nat) (l2 : Int32), J2 h l0 l1 l2 → Go E X 3 0 0 2 [(0, aP l0), (1, aP l1), (2, aI l2)] [] h) {h : AH} {l0 : Option Nat} {l1 : Option Nat} {l2 : Int32} (w : PX6_addPiece_2 E post J2 h l0 l1 l2) : Go E X 3 0 0 2 [(0, aP l0), (1, aP l1), (2, aI l2)] [] h := by
  unfold PX6_addPiece_2 at w
  refine r_iload_n C dX6_addPiece_2 rfl 2 rfl ?_
  refine r_aload_n C dX6_addPiece_3 rfl 1 rfl ?_
  refine r_getI C fcX5 (f := 2) (by decide) rfl k109 dX6_addPiece_4 (w.mono fun x1 w => ?_)
  refine r_icmp_ge C dX6_addPiece_7 (tgt := 30) rfl (fun hc => ?_) (fun hc => ?_)
  · have w := w.1 hc
    refine r_aload_n C dX6_addPiece_30 rfl 0 rfl ?_
    refine r_cvV (rm' := rmX6_endPiece) C mX6_endPiece vX6_endPiece k753 [] [] rfl rfl (Nat.le_of_ble_eq_true rfl) (by decide) ⟨Nat.zero_le _, Nat.zero_le _⟩ 0 0 rfl rfl dX6_addPiece_31 w (fun h3 w => ?_)
    exact r_vret C D rfl (Nat.zero_le _) (Nat.zero_le _) dX6_addPiece_34 w
  · have w := w.2 hc
    refine r_aload_n C dX6_addPiece_10 rfl 0 rfl ?_
    refine r_aload_n C dX6_addPiece_11 rfl 1 rfl ?_
    refine r_iload_n C dX6_addPiece_12 rfl 2 rfl ?_
    refine r_cvI (rm' := rmX5_x) C mX5_x vX5_x k746 [aI l2] [aP l0] rfl rfl (Nat.le_of_ble_eq_true rfl) (by decide) ⟨Nat.zero_le _, Nat.zero_le _⟩ 0 0 rfl rfl dX6_addPiece_13 w (fun x2 h3 w => ?_)
    refine r_aload_n C dX6_addPiece_16 rfl 1 rfl ?_
    refine r_iload_n C dX6_addPiece_17 rfl 2 rfl ?_
    refine r_cvI (rm' := rmX5_y) C mX5_y vX5_y k747 [aI l2] [aI x2, aP l0] rfl rfl (Nat.le_of_ble_eq_true rfl) (by decide) ⟨Nat.zero_le _, Nat.zero_le _⟩ 0 0 rfl rfl dX6_addPiece_18 w (fun x4 h5 w => ?_)
    refine r_cvV (rm' := rmX6_addVertex) C mX6_addVertex vX6_addVertex k748 [aI x2, aI x4] [] rfl rfl (Nat.le_of_ble_eq_true rfl) (by decide) ⟨Nat.zero_le _, Nat.zero_le _⟩ 0 0 rfl rfl dX6_addPiece_21 w (fun h7 w => ?_)
    refine r_iinc C dX6_addPiece_24 2 rfl (v := 1) rfl (by decide) rfl ?_
    refine r_goto C dX6_addPiece_27 (tgt := 2) rfl ?_
    exact r_sub [1, 2, 0] rfl (g2 h7 l0 l1 (l2 + (1 : Int32)) w)
theorem lpX6_addPiece_2 {E : EV} {X : AX} {post : Option AV → AH → Prop} (C : Cb E X cX6_addPiece RX6 3 rmX6_addPiece) (D : Cr E X none rmX6_addPiece "addPiece" post) (I : Nat → AH → Option Nat → Option Nat → Int32 → Prop) (step : ∀ (z : Nat) (h : AH) (l0 : Option Nat) (l1 : Option Nat) (l2 : Int32), I z h l0 l1 l2 → PX6_addPiece_2 E post (fun h l0 l1 l2 => ∃ z', z' < z ∧ I z' h l0 l1 l2) h l0 l1 l2) : ∀ (z : Nat) (h : AH) (l0 : Option Nat) (l1 : Option Nat) (l2 : Int32), I z h l0 l1 l2 → Go E X 3 0 0 2 [(0, aP l0), (1, aP l1), (2, aI l2)] [] h := by
  intro z
  induction z using Nat.strongRecOn with
  | _ z ih =>
    intro h l0 l1 l2 hI
    exact bX6_addPiece_2 C D (fun h l0 l1 l2 hJ => by obtain ⟨z', hz, hi⟩ := hJ; exact ih z' hz h l0 l1 l2 hi) (step z h l0 l1 l2 hI)
def PX6_addPiece_0 (E : EV) (post : Option AV → AH → Prop) (J2 : AH → Option Nat → Option Nat → Int32 → Prop) (h : AH) (l0 : Option Nat) (l1 : Option Nat) : Prop :=
  J2 h l0 l1 (0 : Int32)
theorem bX6_addPiece_0 {E : EV} {X : AX} {post : Option AV → AH → Prop} (C : Cb E X cX6_addPiece RX6 3 rmX6_addPiece) (D : Cr E X none rmX6_addPiece "addPiece" post) {J2 : AH → Option Nat → Option Nat → Int32 → Prop} (g2 : ∀ (h : AH) (l0 : Option Nat) (l1 : Option Nat) (l2 : Int32), J2 h l0 l1 l2 → Go E X 3 0 0 2 [(0, aP l0), (1, aP l1), (2, aI l2)] [] h) {h : AH} {l0 : Option Nat} {l1 : Option Nat} (w : PX6_addPiece_0 E post J2 h l0 l1) : Go E X 3 0 0 0 [(0, aP l0), (1, aP l1)] [] h := by
  unfold PX6_addPiece_0 at w
  refine r_iconst (v := 0) C dX6_addPiece_0 rfl ?_
  refine r_istore_n C dX6_addPiece_1 rfl (by decide) rfl ?_
  exact r_sub [1, 2, 0] rfl (g2 h l0 l1 (0 : Int32) w)
theorem eX6_addPiece {E : EV} {post : Option AV → AH → Prop} {h : AH} {l0 : Option Nat} {l1 : Option Nat} {J2 : AH → Option Nat → Option Nat → Int32 → Prop} (g2 : ∀ X : AX, Cb E X cX6_addPiece RX6 3 rmX6_addPiece → Cr E X none rmX6_addPiece "addPiece" post → ∀ (h : AH) (l0 : Option Nat) (l1 : Option Nat) (l2 : Int32), J2 h l0 l1 l2 → Go E X 3 0 0 2 [(0, aP l0), (1, aP l1), (2, aI l2)] [] h) (w : PX6_addPiece_0 E post J2 h l0 l1) : sX6_addPiece E [aP l0, aP l1] h post := Spec.of RX6 rfl rfl (Nat.le_of_ble_eq_true rfl) fun X C D => bX6_addPiece_0 C D (g2 X C D) w
theorem dX6_clear_0 : decode cX6_clear 0 = .ok (.aload_n 0, 1) := by decide +kernel
theorem dX6_clear_1 : decode cX6_clear 1 = .ok (.iconst 0, 1) := by decide +kernel
theorem dX6_clear_2 : decode cX6_clear 2 = .ok (.putfield 21, 3) := by decide +kernel
theorem dX6_clear_5 : decode cX6_clear 5 = .ok (.aload_n 0, 1) := by decide +kernel
theorem dX6_clear_6 : decode cX6_clear 6 = .ok (.iconst 0, 1) := by decide +kernel
theorem dX6_clear_7 : decode cX6_clear 7 = .ok (.putfield 25, 3) := by decide +kernel
theorem dX6_clear_10 : decode cX6_clear 10 = .ok (.return_, 1) := by decide +kernel
abbrev rmX6_clear : Room := { frames := 0, cells := 0, slots := 0, locals := 0 }
abbrev sX6_clear (E : EV) : List AV → AH → (Option AV → AH → Prop) → Prop := Spec E yX6_clear cX6_clear 1 none rmX6_clear
theorem mX6_clear : Mt yX6_clear cX6_clear 1 none 0 := ⟨k698, k2, by decide +kernel⟩
theorem vX6_clear : MtV yX6_clear 6 := ⟨k696, k697, by decide, (RX6, TX6, 9), rfl, rfl⟩
def PX6_clear_0 (E : EV) (post : Option AV → AH → Prop) (h : AH) (l0 : Option Nat) : Prop :=
  wr h l0 6 3 (aI (0 : Int32)) fun h1 => wr h1 l0 6 4 (aI (0 : Int32)) fun h2 => post none h2
theorem bX6_clear_0 {E : EV} {X : AX} {post : Option AV → AH → Prop} (C : Cb E X cX6_clear RX6 1 rmX6_clear) (D : Cr E X none rmX6_clear "clear" post) {h : AH} {l0 : Option Nat} (w : PX6_clear_0 E post h l0) : Go E X 1 0 0 0 [(0, aP l0)] [] h := by
  unfold PX6_clear_0 at w
  refine r_aload_n C dX6_clear_0 rfl 0 rfl ?_
  refine r_iconst (v := 0) C dX6_clear_1 rfl ?_
  refine r_put C fcX6 (f := 3) (by decide) rfl rfl rfl rfl k30 dX6_clear_2 (w.mono fun h1 w => ?_)
  refine r_aload_n C dX6_clear_5 rfl 0 rfl ?_
  refine r_iconst (v := 0) C dX6_clear_6 rfl ?_
  refine r_put C fcX6 (f := 4) (by decide) rfl rfl rfl rfl k34 dX6_clear_7 (w.mono fun h2 w => ?_)
  exact r_vret C D rfl (Nat.zero_le _) (Nat.zero_le _) dX6_clear_10 w
theorem eX6_clear {E : EV} {post : Option AV → AH → Prop} {h : AH} {l0 : Option Nat} (w : PX6_clear_0 E post h l0) : sX6_clear E [aP l0] h post := Spec.of RX6 rfl rfl (Nat.le_of_ble_eq_true rfl) fun X C D => bX6_clear_0 C D w
theorem dX6_init_0 : decode cX6_init 0 = .ok (.aload_n 0, 1) := by decide +kernel
theorem dX6_init_1 : decode cX6_init 1 = .ok (.invokespecial 3, 3) := by decide +kernel
theorem dX6_init_4 : decode cX6_init 4 = .ok (.aload_n 0, 1) := by decide +kernel
theorem dX6_init_5 : decode cX6_init 5 = .ok (.iconst 4, 1) := by decide +kernel
theorem dX6_init_6 : decode cX6_init 6 = .ok (.newarray .int, 2) := by decide +kernel
theorem dX6_init_8 : decode cX6_init 8 = .ok (.putfield 9, 3) := by decide +kernel
theorem dX6_init_11 : decode cX6_init 11 = .ok (.aload_n 0, 1) := by decide +kernel
theorem dX6_init_12 : decode cX6_init 12 = .ok (.bipush 18, 2) := by decide +kernel
theorem dX6_init_14 : decode cX6_init 14 = .ok (.newarray .int, 2) := by decide +kernel
theorem dX6_init_16 : decode cX6_init 16 = .ok (.putfield 15, 3) := by decide +kernel
theorem dX6_init_19 : decode cX6_init 19 = .ok (.aload_n 0, 1) := by decide +kernel
theorem dX6_init_20 : decode cX6_init 20 = .ok (.bipush 18, 2) := by decide +kernel
theorem dX6_init_22 : decode cX6_init 22 = .ok (.newarray .int, 2) := by decide +kernel
theorem dX6_init_24 : decode cX6_init 24 = .ok (.putfield 18, 3) := by decide +kernel
theorem dX6_init_27 : decode cX6_init 27 = .ok (.return_, 1) := by decide +kernel
abbrev rmX6_init : Room := { frames := 1, cells := 3, slots := 40, locals := 40 }
abbrev sX6_init (E : EV) : List AV → AH → (Option AV → AH → Prop) → Prop := Spec E yX6_init cX6_init 1 none rmX6_init
theorem mX6_init : Mt yX6_init cX6_init 1 none 0 := ⟨k25, k2, by decide +kernel⟩
theorem vX6_init : MtI yX6_init := ⟨rfl, k24⟩
def PX6_init_0 (E : EV) (post : Option AV → AH → Prop) (k n : Nat) (h : AH) (l0 : Nat) : Prop :=
  (k + 1 ≤ 3 ∧ n + 4 ≤ 40) ∧ (∀ h1, h1 = h ++ [.inl (0, List.replicate 4 0)] → wr h1 (some l0) 6 0 (aP (some h.length)) fun h2 => ((k + 1) + 1 ≤ 3 ∧ (n + 4) + 18 ≤ 40) ∧ (∀ h3, h3 = h2 ++ [.inl (0, List.replicate 18 0)] → wr h3 (some l0) 6 1 (aP (some h2.length)) fun h4 => (((k + 1) + 1) + 1 ≤ 3 ∧ ((n + 4) + 18) + 18 ≤ 40) ∧ (∀ h5, h5 = h4 ++ [.inl (0, List.replicate 18 0)] → wr h5 (some l0) 6 2 (aP (some h4.length)) fun h6 => ((((k + 1) + 1) + 1) ≤ 3 ∧ (((n + 4) + 18) + 18) ≤ 40) ∧ post none h6)))
theorem bX6_init_0 {E : EV} {X : AX} {post : Option AV → AH → Prop} (C : Cb E X cX6_init RX6 1 rmX6_init) (D : Cr E X none rmX6_init "<init>" post) {k n : Nat} {h : AH} {l0 : Nat} (w : PX6_init_0 E post k n h l0) : Go E X 1 k n 0 [(0, aP (some l0))] [] h := by
  unfold PX6_init_0 at w
  refine r_aload_n C dX6_init_0 rfl 0 rfl ?_
  refine r_objInit C k26 k19 k20 (by decide) (by decide) (Nat.le_of_ble_eq_true rfl) dX6_init_1 ?_
  refine r_aload_n C dX6_init_4 rfl 0 rfl ?_
  refine r_iconst (v := 4) C dX6_init_5 rfl ?_
  refine r_newaI 0 .int rfl 0 rfl ra_int rfl (N' := 4) C k66 (by decide) rfl (by decide) w.1.1 w.1.2 dX6_init_6 ?_
  have w := w.2 _ rfl
  generalize h ++ [.inl (0, List.replicate 4 0)] = h1 at w ⊢
  refine r_putF C D fcX6 (f := 0) (by decide) rfl rfl rfl rfl (ft_A _ _) k27 dX6_init_8 (w.mono fun h2 w => ?_)
  refine r_aload_n C dX6_init_11 rfl 0 rfl ?_
  refine r_bipush (v := 18) C dX6_init_12 rfl ?_
  refine r_newaI 0 .int rfl 0 rfl ra_int rfl (N' := 18) C k66 (by decide) rfl (by decide) w.1.1 w.1.2 dX6_init_14 ?_
  have w := w.2 _ rfl
  generalize h2 ++ [.inl (0, List.replicate 18 0)] = h3 at w ⊢
  refine r_putF C D fcX6 (f := 1) (by decide) rfl rfl rfl rfl (ft_A _ _) k28 dX6_init_16 (w.mono fun h4 w => ?_)
  refine r_aload_n C dX6_init_19 rfl 0 rfl ?_
  refine r_bipush (v := 18) C dX6_init_20 rfl ?_
  refine r_newaI 0 .int rfl 0 rfl ra_int rfl (N' := 18) C k66 (by decide) rfl (by decide) w.1.1 w.1.2 dX6_init_22 ?_
  have w := w.2 _ rfl
  generalize h4 ++ [.inl (0, List.replicate 18 0)] = h5 at w ⊢
  refine r_putF C D fcX6 (f := 2) (by decide) rfl rfl rfl rfl (ft_A _ _) k29 dX6_init_24 (w.mono fun h6 w => ?_)
  exact r_vret C D rfl w.1.1 w.1.2 dX6_init_27 w.2
theorem eX6_init {E : EV} {post : Option AV → AH → Prop} {h : AH} {l0 : Nat} (w : PX6_init_0 E post 0 0 h l0) : sX6_init E [aP (some l0)] h post := Spec.of RX6 rfl rfl (Nat.le_of_ble_eq_true rfl) fun X C D => bX6_init_0 C D w
theorem dX6_isEmpty_0 : decode cX6_isEmpty 0 = .ok (.aload_n 0, 1) := by decide +kernel
theorem dX6_isEmpty_1 : decode cX6_isEmpty 1 = .ok (.getfield 21, 3) := by decide +kernel
theorem dX6_isEmpty_4 : decode cX6_isEmpty 4 = .ok (.ifCond .ne 7, 3) := by decide +kernel
theorem dX6_isEmpty_7 : decode cX6_isEmpty 7 = .ok (.iconst 1, 1) := by decide +kernel
theorem dX6_isEmpty_8 : decode cX6_isEmpty 8 = .ok (.goto 4, 3) := by decide +kernel
theorem dX6_isEmpty_11 : decode cX6_isEmpty 11 = .ok (.iconst 0, 1) := by decide +kernel
theorem dX6_isEmpty_12 : decode cX6_isEmpty 12 = .ok (.ireturn, 1) := by decide +kernel
abbrev rmX6_isEmpty : Room := { frames := 0, cells := 0, slots := 0, locals := 0 }
abbrev sX6_isEmpty (E : EV) : List AV → AH → (Option AV → AH → Prop) → Prop := Spec E yX6_isEmpty cX6_isEmpty 1 (some .boolean) rmX6_isEmpty
theorem mX6_isEmpty : Mt yX6_isEmpty cX6_isEmpty 1 (some .boolean) 0 := ⟨k599, k2, by decide +kernel⟩
theorem vX6_isEmpty : MtV yX6_isEmpty 6 := ⟨k597, k598, by decide, (RX6, TX6, 9), rfl, rfl⟩
def PX6_isEmpty_0 (E : EV) (post : Option AV → AH → Prop) (h : AH) (l0 : Option Nat) : Prop :=
  rdI h l0 6 3 fun x1 => (¬ x1 = 0 → post (some (aI (0 : Int32))) h) ∧ (x1 = 0 → post (some (aI (1 : Int32))) h)
theorem bX6_isEmpty_0 {E : EV} {X : AX} {post : Option AV → AH → Prop} (C : Cb E X cX6_isEmpty RX6 1 rmX6_isEmpty) (D : Cr E X (some .boolean) rmX6_isEmpty "isEmpty" post) {h : AH} {l0 : Option Nat} (w : PX6_isEmpty_0 E post h l0) : Go E X 1 0 0 0 [(0, aP l0)] [] h := by
  unfold PX6_isEmpty_0 at w
  refine r_aload_n C dX6_isEmpty_0 rfl 0 rfl ?_
  refine r_getI C fcX6 (f := 3) (by decide) rfl k30 dX6_isEmpty_1 (w.mono fun x1 w => ?_)
  refine r_if_ne C dX6_isEmpty_4 (tgt := 11) rfl (fun hc => ?_) (fun hc => ?_)
  · have w := w.1 hc
    refine r_iconst (v := 0) C dX6_isEmpty_11 rfl ?_
    exact r_zret C D rfl (Or.inl rfl) (Nat.zero_le _) (Nat.zero_le _) dX6_isEmpty_12 w
  · have w := w.2 hc
    refine r_iconst (v := 1) C dX6_isEmpty_7 rfl ?_
    refine r_goto C dX6_isEmpty_8 (tgt := 12) rfl ?_
    exact r_zret C D rfl (Or.inr rfl) (Nat.zero_le _) (Nat.zero_le _) dX6_isEmpty_12 w
theorem eX6_isEmpty {E : EV} {post : Option AV → AH → Prop} {h : AH} {l0 : Option Nat} (w : PX6_isEmpty_0 E post h l0) : sX6_isEmpty E [aP l0] h post := Spec.of RX6 rfl rfl (Nat.le_of_ble_eq_true rfl) fun X C D => bX6_isEmpty_0 C D w
theorem dX6_reach_0 : decode cX6_reach 0 = .ok (.aload_n 0, 1) := by decide +kernel
theorem dX6_reach_1 : decode cX6_reach 1 = .ok (.iconst 0, 1) := by decide +kernel
theorem dX6_reach_2 : decode cX6_reach 2 = .ok (.invokevirtual 53, 3) := by decide +kernel
theorem dX6_reach_5 : decode cX6_reach 5 = .ok (.iload_n 1, 1) := by decide +kernel
theorem dX6_reach_6 : decode cX6_reach 6 = .ok (.imul, 1) := by decide +kernel
theorem dX6_reach_7 : decode cX6_reach 7 = .ok (.aload_n 0, 1) := by decide +kernel
theorem dX6_reach_8 : decode cX6_reach 8 = .ok (.iconst 0, 1) := by decide +kernel
theorem dX6_reach_9 : decode cX6_reach 9 = .ok (.invokevirtual 54, 3) := by decide +kernel
theorem dX6_reach_12 : decode cX6_reach 12 = .ok (.iload_n 2, 1) := by decide +kernel
theorem dX6_reach_13 : decode cX6_reach 13 = .ok (.imul, 1) := by decide +kernel
theorem dX6_reach_14 : decode cX6_reach 14 = .ok (.iadd, 1) := by decide +kernel
theorem dX6_reach_15 : decode cX6_reach 15 = .ok (.istore_n 3, 1) := by decide +kernel
theorem dX6_reach_16 : decode cX6_reach 16 = .ok (.iconst 1, 1) := by decide +kernel
theorem dX6_reach_17 : decode cX6_reach 17 = .ok (.istore 4, 2) := by decide +kernel
theorem dX6_reach_19 : decode cX6_reach 19 = .ok (.iload 4, 2) := by decide +kernel
theorem dX6_reach_21 : decode cX6_reach 21 = .ok (.aload_n 0, 1) := by decide +kernel
theorem dX6_reach_22 : decode cX6_reach 22 = .ok (.getfield 25, 3) := by decide +kernel
theorem dX6_reach_25 : decode cX6_reach 25 = .ok (.if_icmp .ge 31, 3) := by decide +kernel
theorem dX6_reach_28 : decode cX6_reach 28 = .ok (.iload_n 3, 1) := by decide +kernel
theorem dX6_reach_29 : decode cX6_reach 29 = .ok (.aload_n 0, 1) := by decide +kernel
theorem dX6_reach_30 : decode cX6_reach 30 = .ok (.iload 4, 2) := by decide +kernel
theorem dX6_reach_32 : decode cX6_reach 32 = .ok (.invokevirtual 53, 3) := by decide +kernel
theorem dX6_reach_35 : decode cX6_reach 35 = .ok (.iload_n 1, 1) := by decide +kernel
theorem dX6_reach_36 : decode cX6_reach 36 = .ok (.imul, 1) := by decide +kernel
theorem dX6_reach_37 : decode cX6_reach 37 = .ok (.aload_n 0, 1) := by decide +kernel
theorem dX6_reach_38 : decode cX6_reach 38 = .ok (.iload 4, 2) := by decide +kernel
theorem dX6_reach_40 : decode cX6_reach 40 = .ok (.invokevirtual 54, 3) := by decide +kernel
theorem dX6_reach_43 : decode cX6_reach 43 = .ok (.iload_n 2, 1) := by decide +kernel
theorem dX6_reach_44 : decode cX6_reach 44 = .ok (.imul, 1) := by decide +kernel
theorem dX6_reach_45 : decode cX6_reach 45 = .ok (.iadd, 1) := by decide +kernel
theorem dX6_reach_46 : decode cX6_reach 46 = .ok (.invokestatic 66, 3) := by decide +kernel
theorem dX6_reach_49 : decode cX6_reach 49 = .ok (.istore_n 3, 1) := by decide +kernel
theorem dX6_reach_50 : decode cX6_reach 50 = .ok (.iinc 4 1, 3) := by decide +kernel
theorem dX6_reach_53 : decode cX6_reach 53 = .ok (.goto (-34), 3) := by decide +kernel
theorem dX6_reach_56 : decode cX6_reach 56 = .ok (.iload_n 3, 1) := by decide +kernel
theorem dX6_reach_57 : decode cX6_reach 57 = .ok (.ireturn, 1) := by decide +kernel
abbrev rmX6_reach : Room := { frames := 1, cells := 0, slots := 0, locals := 40 }
abbrev sX6_reach (E : EV) : List AV → AH → (Option AV → AH → Prop) → Prop := Spec E yX6_reach cX6_reach 5 (some .int) rmX6_reach
theorem mX6_reach : Mt yX6_reach cX6_reach 5 (some .int) 2 := ⟨k603, k2, by decide +kernel⟩
theorem vX6_reach : MtV yX6_reach 6 := ⟨k601, k602, by decide, (RX6, TX6, 9), rfl, rfl⟩
def PX6_reach_19 (E : EV) (post : Option AV → AH → Prop) (J19 : AH → Option Nat → Int32 → Int32 → Int32 → Int32 → Prop) (h : AH) (l0 : Option Nat) (l1 : Int32) (l2 : Int32) (l3 : Int32) (l4 : Int32) : Prop :=
  rdI h l0 6 4 fun x1 => (x1 ≤ l4 → post (some (aI l3)) h) ∧ (¬ x1 ≤ l4 → CV (sX6_x E) l0 6 [aI l4] h (kI fun x2 h3 => CV (sX6_y E) l0 6 [aI l4] h3 (kI fun x4 h5 => ∀ v6, v6 = (if l3 < ((x2 * l1) + (x4 * l2)) then ((x2 * l1) + (x4 * l2)) else l3) → J19 h5 l0 l1 l2 v6 (l4 + (1 : Int32)))))
theorem bX6_reach_19 {E : EV} {X : AX} {post : Option AV → AH → Prop} (C : Cb E X cX6_reach RX6 5 rmX6_reach) (D : Cr E X (some .int) rmX6_reach "reach" post) {J19 : AH → Option Nat → Int32 → Int32 → Int32 → Int32 → Prop} (g19 : ∀ (h : AH) (l0 : Option Nat) (l1 : Int32) (l2 : Int32) (l3 : Int32) (l4 : Int32), J19 h l0 l1 l2 l3 l4 → Go E X 5 0 0 19 [(0, aP l0), (1, aI l1), (2, aI l2), (3, aI l3), (4, aI l4)] [] h) {h : AH} {l0 : Option Nat} {l1 : Int32} {l2 : Int32} {l3 : Int32} {l4 : Int32} (w : PX6_reach_19 E post J19 h l0 l1 l2 l3 l4) : Go E X 5 0 0 19 [(0, aP l0), (1, aI l1), (2, aI l2), (3, aI l3), (4, aI l4)] [] h := by
  unfold PX6_reach_19 at w
  refine r_iload C dX6_reach_19 4 rfl ?_
  refine r_aload_n C dX6_reach_21 rfl 0 rfl ?_
  refine r_getI C fcX6 (f := 4) (by decide) rfl k34 dX6_reach_22 (w.mono fun x1 w => ?_)
  refine r_icmp_ge C dX6_reach_25 (tgt := 56) rfl (fun hc => ?_) (fun hc => ?_)
  · have w := w.1 hc
    refine r_iload_n C dX6_reach_56 rfl 3 rfl ?_
    exact r_iret C D rfl (Nat.zero_le _) (Nat.zero_le _) dX6_reach_57 w
  · have w := w.2 hc
    refine r_iload_n C dX6_reach_28 rfl 3 rfl ?_
    refine r_aload_n C dX6_reach_29 rfl 0 rfl ?_
    refine r_iload C dX6_reach_30 4 rfl ?_
    refine r_cvI (rm' := rmX6_x) C mX6_x vX6_x k440 [aI l4] [aI l3] rfl rfl (Nat.le_of_ble_eq_true rfl) (by decide) ⟨Nat.zero_le _, Nat.zero_le _⟩ 0 0 rfl rfl dX6_reach_32 w (fun x2 h3 w => ?_)
    refine r_iload_n C dX6_reach_35 rfl 1 rfl ?_
    refine r_imul C dX6_reach_36 ?_
    refine r_aload_n C dX6_reach_37 rfl 0 rfl ?_
    refine r_iload C dX6_reach_38 4 rfl ?_
    refine r_cvI (rm' := rmX6_y) C mX6_y vX6_y k444 [aI l4] [aI (x2 * l1), aI l3] rfl rfl (Nat.le_of_ble_eq_true rfl) (by decide) ⟨Nat.zero_le _, Nat.zero_le _⟩ 0 0 rfl rfl dX6_reach_40 w (fun x4 h5 w => ?_)
    refine r_iload_n C dX6_reach_43 rfl 2 rfl ?_
    refine r_imul C dX6_reach_44 ?_
    refine r_iadd C dX6_reach_45 ?_
    refine r_mmax C k604 k546 k12 k547 (by decide) (Nat.le_of_ble_eq_true rfl) (Nat.zero_le _) (Nat.zero_le _) dX6_reach_46 ?_
    have w := w _ rfl
    generalize (if l3 < ((x2 * l1) + (x4 * l2)) then ((x2 * l1) + (x4 * l2)) else l3) = v6 at w ⊢
    refine r_istore_n C dX6_reach_49 rfl (by decide) rfl ?_
    refine r_iinc C dX6_reach_50 4 rfl (v := 1) rfl (by decide) rfl ?_
    refine r_goto C dX6_reach_53 (tgt := 19) rfl ?_
    exact r_sub [2, 3, 4, 1, 0] rfl (g19 h5 l0 l1 l2 v6 (l4 + (1 : Int32)) w)
theorem lpX6_reach_19 {E : EV} {X : AX} {post : Option AV → AH → Prop} (C : Cb E X cX6_reach RX6 5 rmX6_reach) (D : Cr E X (some .int) rmX6_reach "reach" post) (I : Nat → AH → Option Nat → Int32 → Int32 → Int32 → Int32 → Prop) (step : ∀ (z : Nat) (h : AH) (l0 : Option Nat) (l1 : Int32) (l2 : Int32) (l3 : Int32) (l4 : Int32), I z h l0 l1 l2 l3 l4 → PX6_reach_19 E post (fun h l0 l1 l2 l3 l4 => ∃ z', z' < z ∧ I z' h l0 l1 l2 l3 l4) h l0 l1 l2 l3 l4) : ∀ (z : Nat) (h : AH) (l0 : Option Nat) (l1 : Int32) (l2 : Int32) (l3 : Int32) (l4 : Int32), I z h l0 l1 l2 l3 l4 → Go E X 5 0 0 19 [(0, aP l0), (1, aI l1), (2, aI l2), (3, aI l3), (4, aI l4)] [] h := by
  intro z
  induction z using Nat.strongRecOn with
  | _ z ih =>
    intro h l0 l1 l2 l3 l4 hI
    exact bX6_reach_19 C D (fun h l0 l1 l2 l3 l4 hJ => by obtain ⟨z', hz, hi⟩ := hJ; exact ih z' hz h l0 l1 l2 l3 l4 hi) (step z h l0 l1 l2 l3 l4 hI)
def PX6_reach_0 (E : EV) (post : Option AV → AH → Prop) (J19 : AH → Option Nat → Int32 → Int32 → Int32 → Int32 → Prop) (h : AH) (l0 : Option Nat) (l1 : Int32) (l2 : Int32) : Prop :=
  CV (sX6_x E) l0 6 [aI (0 : Int32)] h (kI fun x1 h2 => CV (sX6_y E) l0 6 [aI (0 : Int32)] h2 (kI fun x3 h4 => ∀ v5, v5 = ((x1 * l1) + (x3 * l2)) → J19 h4 l0 l1 l2 v5 (1 : Int32)))
theorem bX6_reach_0 {E : EV} {X : AX} {post : Option AV → AH → Prop} (C : Cb E X cX6_reach RX6 5 rmX6_reach) (D : Cr E X (some .int) rmX6_reach "reach" post) {J19 : AH → Option Nat → Int32 → Int32 → Int32 → Int32 → Prop} (g19 : ∀ (h : AH) (l0 : Option Nat) (l1 : Int32) (l2 : Int32) (l3 : Int32) (l4 : Int32), J19 h l0 l1 l2 l3 l4 → Go E X 5 0 0 19 [(0, aP l0), (1, aI l1), (2, aI l2), (3, aI l3), (4, aI l4)] [] h) {h : AH} {l0 : Option Nat} {l1 : Int32} {l2 : Int32} (w : PX6_reach_0 E post J19 h l0 l1 l2) : Go E X 5 0 0 0 [(0, aP l0), (1, aI l1), (2, aI l2)] [] h := by
  unfold PX6_reach_0 at w
  refine r_aload_n C dX6_reach_0 rfl 0 rfl ?_
  refine r_iconst (v := 0) C dX6_reach_1 rfl ?_
  refine r_cvI (rm' := rmX6_x) C mX6_x vX6_x k440 [aI (0 : Int32)] [] rfl rfl (Nat.le_of_ble_eq_true rfl) (by decide) ⟨Nat.zero_le _, Nat.zero_le _⟩ 0 0 rfl rfl dX6_reach_2 w (fun x1 h2 w => ?_)
  refine r_iload_n C dX6_reach_5 rfl 1 rfl ?_
  refine r_imul C dX6_reach_6 ?_
  refine r_aload_n C dX6_reach_7 rfl 0 rfl ?_
  refine r_iconst (v := 0) C dX6_reach_8 rfl ?_
  refine r_cvI (rm' := rmX6_y) C mX6_y vX6_y k444 [aI (0 : Int32)] [aI (x1 * l1)] rfl rfl (Nat.le_of_ble_eq_true rfl) (by decide) ⟨Nat.zero_le _, Nat.zero_le _⟩ 0 0 rfl rfl dX6_reach_9 w (fun x3 h4 w => ?_)
  refine r_iload_n C dX6_reach_12 rfl 2 rfl ?_
  refine r_imul C dX6_reach_13 ?_
  refine r_iadd C dX6_reach_14 ?_
  refine r_istore_n C dX6_reach_15 rfl (by decide) rfl ?_
  have w := w _ rfl
  refine r_iconst (v := 1) C dX6_reach_16 rfl ?_
  refine r_istore C dX6_reach_17 (by decide) rfl ?_
  exact r_sub [2, 3, 4, 1, 0] rfl (g19 h4 l0 l1 l2 ((x1 * l1) + (x3 * l2)) (1 : Int32) w)
theorem eX6_reach {E : EV} {post : Option AV → AH → Prop} {h : AH} {l0 : Option Nat} {l1 : Int32} {l2 : Int32} {J19 : AH → Option Nat → Int32 → Int32 → Int32 → Int32 → Prop} (g19 : ∀ X : AX, Cb E X cX6_reach RX6 5 rmX6_reach → Cr E X (some .int) rmX6_reach "reach" post → ∀ (h : AH) (l0 : Option Nat) (l1 : Int32) (l2 : Int32) (l3 : Int32) (l4 : Int32), J19 h l0 l1 l2 l3 l4 → Go E X 5 0 0 19 [(0, aP l0), (1, aI l1), (2, aI l2), (3, aI l3), (4, aI l4)] [] h) (w : PX6_reach_0 E post J19 h l0 l1 l2) : sX6_reach E [aP l0, aI l1, aI l2] h post := Spec.of RX6 rfl rfl (Nat.le_of_ble_eq_true rfl) fun X C D => bX6_reach_0 C D (g19 X C D) w
theorem dX6_setTurned_0 : decode cX6_setTurned 0 = .ok (.aload_n 0, 1) := by decide +kernel
theorem dX6_setTurned_1 : decode cX6_setTurned 1 = .ok (.invokevirtual 47, 3) := by decide +kernel
theorem dX6_setTurned_4 : decode cX6_setTurned 4 = .ok (.iconst 0, 1) := by decide +kernel
theorem dX6_setTurned_5 : decode cX6_setTurned 5 = .ok (.istore_n 3, 1) := by decide +kernel
theorem dX6_setTurned_6 : decode cX6_setTurned 6 = .ok (.iload_n 3, 1) := by decide +kernel
theorem dX6_setTurned_7 : decode cX6_setTurned 7 = .ok (.aload_n 1, 1) := by decide +kernel
theorem dX6_setTurned_8 : decode cX6_setTurned 8 = .ok (.getfield 21, 3) := by decide +kernel
theorem dX6_setTurned_11 : decode cX6_setTurned 11 = .ok (.if_icmp .ge 74, 3) := by decide +kernel
theorem dX6_setTurned_14 : decode cX6_setTurned 14 = .ok (.aload_n 1, 1) := by decide +kernel
theorem dX6_setTurned_15 : decode cX6_setTurned 15 = .ok (.iload_n 3, 1) := by decide +kernel
theorem dX6_setTurned_16 : decode cX6_setTurned 16 = .ok (.invokevirtual 50, 3) := by decide +kernel
theorem dX6_setTurned_19 : decode cX6_setTurned 19 = .ok (.istore 4, 2) := by decide +kernel
theorem dX6_setTurned_21 : decode cX6_setTurned 21 = .ok (.iload 4, 2) := by decide +kernel
theorem dX6_setTurned_23 : decode cX6_setTurned 23 = .ok (.aload_n 1, 1) := by decide +kernel
theorem dX6_setTurned_24 : decode cX6_setTurned 24 = .ok (.iload_n 3, 1) := by decide +kernel
theorem dX6_setTurned_25 : decode cX6_setTurned 25 = .ok (.iconst 1, 1) := by decide +kernel
theorem dX6_setTurned_26 : decode cX6_setTurned 26 = .ok (.iadd, 1) := by decide +kernel
theorem dX6_setTurned_27 : decode cX6_setTurned 27 = .ok (.invokevirtual 50, 3) := by decide +kernel
theorem dX6_setTurned_30 : decode cX6_setTurned 30 = .ok (.if_icmp .ge 45, 3) := by decide +kernel
theorem dX6_setTurned_33 : decode cX6_setTurned 33 = .ok (.aload_n 0, 1) := by decide +kernel
theorem dX6_setTurned_34 : decode cX6_setTurned 34 = .ok (.aload_n 1, 1) := by decide +kernel
theorem dX6_setTurned_35 : decode cX6_setTurned 35 = .ok (.iload 4, 2) := by decide +kernel
theorem dX6_setTurned_37 : decode cX6_setTurned 37 = .ok (.invokevirtual 53, 3) := by decide +kernel
theorem dX6_setTurned_40 : decode cX6_setTurned 40 = .ok (.aload_n 1, 1) := by decide +kernel
theorem dX6_setTurned_41 : decode cX6_setTurned 41 = .ok (.iload 4, 2) := by decide +kernel
theorem dX6_setTurned_43 : decode cX6_setTurned 43 = .ok (.invokevirtual 54, 3) := by decide +kernel
theorem dX6_setTurned_46 : decode cX6_setTurned 46 = .ok (.iload_n 2, 1) := by decide +kernel
theorem dX6_setTurned_47 : decode cX6_setTurned 47 = .ok (.invokestatic 55, 3) := by decide +kernel
theorem dX6_setTurned_50 : decode cX6_setTurned 50 = .ok (.aload_n 1, 1) := by decide +kernel
theorem dX6_setTurned_51 : decode cX6_setTurned 51 = .ok (.iload 4, 2) := by decide +kernel
theorem dX6_setTurned_53 : decode cX6_setTurned 53 = .ok (.invokevirtual 53, 3) := by decide +kernel
theorem dX6_setTurned_56 : decode cX6_setTurned 56 = .ok (.aload_n 1, 1) := by decide +kernel
theorem dX6_setTurned_57 : decode cX6_setTurned 57 = .ok (.iload 4, 2) := by decide +kernel
theorem dX6_setTurned_59 : decode cX6_setTurned 59 = .ok (.invokevirtual 54, 3) := by decide +kernel
theorem dX6_setTurned_62 : decode cX6_setTurned 62 = .ok (.iload_n 2, 1) := by decide +kernel
theorem dX6_setTurned_63 : decode cX6_setTurned 63 = .ok (.invokestatic 59, 3) := by decide +kernel
theorem dX6_setTurned_66 : decode cX6_setTurned 66 = .ok (.invokevirtual 40, 3) := by decide +kernel
theorem dX6_setTurned_69 : decode cX6_setTurned 69 = .ok (.iinc 4 1, 3) := by decide +kernel
theorem dX6_setTurned_72 : decode cX6_setTurned 72 = .ok (.goto (-51), 3) := by decide +kernel
theorem dX6_setTurned_75 : decode cX6_setTurned 75 = .ok (.aload_n 0, 1) := by decide +kernel
theorem dX6_setTurned_76 : decode cX6_setTurned 76 = .ok (.invokevirtual 44, 3) := by decide +kernel
theorem dX6_setTurned_79 : decode cX6_setTurned 79 = .ok (.iinc 3 1, 3) := by decide +kernel
theorem dX6_setTurned_82 : decode cX6_setTurned 82 = .ok (.goto (-76), 3) := by decide +kernel
theorem dX6_setTurned_85 : decode cX6_setTurned 85 = .ok (.return_, 1) := by decide +kernel
abbrev rmX6_setTurned : Room := { frames := 2, cells := 0, slots := 0, locals := 80 }
abbrev sX6_setTurned (E : EV) : List AV → AH → (Option AV → AH → Prop) → Prop := Spec E yX6_setTurned cX6_setTurned 5 none rmX6_setTurned
theorem mX6_setTurned : Mt yX6_setTurned cX6_setTurned 5 none 2 := ⟨k765, k2, by decide +kernel⟩
theorem vX6_setTurned : MtV yX6_setTurned 6 := ⟨k763, k764, by decide, (RX6, TX6, 9), rfl, rfl⟩
def PX6_setTurned_21 (E : EV) (post : Option AV → AH → Prop) (J6 : AH → Option Nat → Option Nat → Int32 → Int32 → Prop) (J21 : AH → Option Nat → Option Nat → Int32 → Int32 → Int32 → Prop) (h : AH) (l0 : Option Nat) (l1 : Option Nat) (l2 : Int32) (l3 : Int32) (l4 : Int32) : Prop :=
  CV (sX6_start E) l1 6 [aI (l3 + (1 : Int32))] h (kI fun x1 h2 => (x1 ≤ l4 → CV (sX6_endPiece E) l0 6 [] h2 (kV fun h4 => J6 h4 l0 l1 l2 (l3 + (1 : Int32)))) ∧ (¬ x1 ≤ l4 → CV (sX6_x E) l1 6 [aI l4] h2 (kI fun x3 h4 => CV (sX6_y E) l1 6 [aI l4] h4 (kI fun x5 h6 => CS (sX6_turnedX E) [aI x3, aI x5, aI l2] h6 (kI fun x7 h8 => CV (sX6_x E) l1 6 [aI l4] h8 (kI fun x9 h10 => CV (sX6_y E) l1 6 [aI l4] h10 (kI fun x11 h12 => CS (sX6_turnedY E) [aI x9, aI x11, aI l2] h12 (kI fun x13 h14 => CV (sX6_addVertex E) l0 6 [aI x7, aI x13] h14 (kV fun h16 => J21 h16 l0 l1 l2 l3 (l4 + (1 : Int32)))))))))))
theorem bX6_setTurned_21 {E : EV} {X : AX} {post : Option AV → AH → Prop} (C : Cb E X cX6_setTurned RX6 5 rmX6_setTurned) (D : Cr E X none rmX6_setTurned "setTurned" post) {J6 : AH → Option Nat → Option Nat → Int32 → Int32 → Prop} (g6 : ∀ (h : AH) (l0 : Option Nat) (l1 : Option Nat) (l2 : Int32) (l3 : Int32), J6 h l0 l1 l2 l3 → Go E X 5 0 0 6 [(0, aP l0), (1, aP l1), (2, aI l2), (3, aI l3)] [] h) {J21 : AH → Option Nat → Option Nat → Int32 → Int32 → Int32 → Prop} (g21 : ∀ (h : AH) (l0 : Option Nat) (l1 : Option Nat) (l2 : Int32) (l3 : Int32) (l4 : Int32), J21 h l0 l1 l2 l3 l4 → Go E X 5 0 0 21 [(0, aP l0), (1, aP l1), (2, aI l2), (3, aI l3), (4, aI l4)] [] h) {h : AH} {l0 : Option Nat} {l1 : Option Nat} {l2 : Int32} {l3 : Int32} {l4 : Int32} (w : PX6_setTurned_21 E post J6 J21 h l0 l1 l2 l3 l4) : Go E X 5 0 0 21 [(0, aP l0), (1, aP l1), (2, aI l2), (3, aI l3), (4, aI l4)] [] h := by
  unfold PX6_setTurned_21 at w
  refine r_iload C dX6_setTurned_21 4 rfl ?_
  refine r_aload_n C dX6_setTurned_23 rfl 1 rfl ?_
  refine r_iload_n C dX6_setTurned_24 rfl 3 rfl ?_
  refine r_iconst (v := 1) C dX6_setTurned_25 rfl ?_
  refine r_iadd C dX6_setTurned_26 ?_
  refine r_cvI (rm' := rmX6_start) C mX6_start vX6_start k436 [aI (l3 + (1 : Int32))] [aI l4] rfl rfl (Nat.le_of_ble_eq_true rfl) (by decide) ⟨Nat.zero_le _, Nat.zero_le _⟩ 0 0 rfl rfl dX6_setTurned_27 w (fun x1 h2 w => ?_)
  refine r_icmp_ge C dX6_setTurned_30 (tgt := 75) rfl (fun hc => ?_) (fun hc => ?_)
  · have w := w.1 hc
    refine r_aload_n C dX6_setTurned_75 rfl 0 rfl ?_
    refine r_cvV (rm' := rmX6_endPiece) C mX6_endPiece vX6_endPiece k753 [] [] rfl rfl (Nat.le_of_ble_eq_true rfl) (by decide) ⟨Nat.zero_le _, Nat.zero_le _⟩ 0 0 rfl rfl dX6_setTurned_76 w (fun h4 w => ?_)
    refine r_iinc C dX6_setTurned_79 3 rfl (v := 1) rfl (by decide) rfl ?_
    refine r_goto C dX6_setTurned_82 (tgt := 6) rfl ?_
    exact r_sub [1, 2, 3, 0] rfl (g6 h4 l0 l1 l2 (l3 + (1 : Int32)) w)
  · have w := w.2 hc
    refine r_aload_n C dX6_setTurned_33 rfl 0 rfl ?_
    refine r_aload_n C dX6_setTurned_34 rfl 1 rfl ?_
    refine r_iload C dX6_setTurned_35 4 rfl ?_
    refine r_cvI (rm' := rmX6_x) C mX6_x vX6_x k440 [aI l4] [aP l0] rfl rfl (Nat.le_of_ble_eq_true rfl) (by decide) ⟨Nat.zero_le _, Nat.zero_le _⟩ 0 0 rfl rfl dX6_setTurned_37 w (fun x3 h4 w => ?_)
    refine r_aload_n C dX6_setTurned_40 rfl 1 rfl ?_
    refine r_iload C dX6_setTurned_41 4 rfl ?_
    refine r_cvI (rm' := rmX6_y) C mX6_y vX6_y k444 [aI l4] [aI x3, aP l0] rfl rfl (Nat.le_of_ble_eq_true rfl) (by decide) ⟨Nat.zero_le _, Nat.zero_le _⟩ 0 0 rfl rfl dX6_setTurned_43 w (fun x5 h6 w => ?_)
    refine r_iload_n C dX6_setTurned_46 rfl 2 rfl ?_
    refine r_csI (rm' := rmX6_turnedX) C mX6_turnedX vX6_turnedX k448 [aI x3, aI x5, aI l2] [aP l0] rfl rfl (Nat.le_of_ble_eq_true rfl) (by decide) ⟨Nat.zero_le _, Nat.zero_le _⟩ 0 0 rfl rfl dX6_setTurned_47 w (fun x7 h8 w => ?_)
    refine r_aload_n C dX6_setTurned_50 rfl 1 rfl ?_
    refine r_iload C dX6_setTurned_51 4 rfl ?_
    refine r_cvI (rm' := rmX6_x) C mX6_x vX6_x k440 [aI l4] [aI x7, aP l0] rfl rfl (Nat.le_of_ble_eq_true rfl) (by decide) ⟨Nat.zero_le _, Nat.zero_le _⟩ 0 0 rfl rfl dX6_setTurned_53 w (fun x9 h10 w => ?_)
    refine r_aload_n C dX6_setTurned_56 rfl 1 rfl ?_
    refine r_iload C dX6_setTurned_57 4 rfl ?_
    refine r_cvI (rm' := rmX6_y) C mX6_y vX6_y k444 [aI l4] [aI x9, aI x7, aP l0] rfl rfl (Nat.le_of_ble_eq_true rfl) (by decide) ⟨Nat.zero_le _, Nat.zero_le _⟩ 0 0 rfl rfl dX6_setTurned_59 w (fun x11 h12 w => ?_)
    refine r_iload_n C dX6_setTurned_62 rfl 2 rfl ?_
    refine r_csI (rm' := rmX6_turnedY) C mX6_turnedY vX6_turnedY k451 [aI x9, aI x11, aI l2] [aI x7, aP l0] rfl rfl (Nat.le_of_ble_eq_true rfl) (by decide) ⟨Nat.zero_le _, Nat.zero_le _⟩ 0 0 rfl rfl dX6_setTurned_63 w (fun x13 h14 w => ?_)
    refine r_cvV (rm' := rmX6_addVertex) C mX6_addVertex vX6_addVertex k748 [aI x7, aI x13] [] rfl rfl (Nat.le_of_ble_eq_true rfl) (by decide) ⟨Nat.zero_le _, Nat.zero_le _⟩ 0 0 rfl rfl dX6_setTurned_66 w (fun h16 w => ?_)
    refine r_iinc C dX6_setTurned_69 4 rfl (v := 1) rfl (by decide) rfl ?_
    refine r_goto C dX6_setTurned_72 (tgt := 21) rfl ?_
    exact r_sub [1, 2, 3, 4, 0] rfl (g21 h16 l0 l1 l2 l3 (l4 + (1 : Int32)) w)
theorem lpX6_setTurned_21 {E : EV} {X : AX} {post : Option AV → AH → Prop} (C : Cb E X cX6_setTurned RX6 5 rmX6_setTurned) (D : Cr E X none rmX6_setTurned "setTurned" post) {J6 : AH → Option Nat → Option Nat → Int32 → Int32 → Prop} (g6 : ∀ (h : AH) (l0 : Option Nat) (l1 : Option Nat) (l2 : Int32) (l3 : Int32), J6 h l0 l1 l2 l3 → Go E X 5 0 0 6 [(0, aP l0), (1, aP l1), (2, aI l2), (3, aI l3)] [] h) (I : Nat → AH → Option Nat → Option Nat → Int32 → Int32 → Int32 → Prop) (step : ∀ (z : Nat) (h : AH) (l0 : Option Nat) (l1 : Option Nat) (l2 : Int32) (l3 : Int32) (l4 : Int32), I z h l0 l1 l2 l3 l4 → PX6_setTurned_21 E post J6 (fun h l0 l1 l2 l3 l4 => ∃ z', z' < z ∧ I z' h l0 l1 l2 l3 l4) h l0 l1 l2 l3 l4) : ∀ (z : Nat) (h : AH) (l0 : Option Nat) (l1 : Option Nat) (l2 : Int32) (l3 : Int32) (l4 : Int32), I z h l0 l1 l2 l3 l4 → Go E X 5 0 0 21 [(0, aP l0), (1, aP l1), (2, aI l2), (3, aI l3), (4, aI l4)] [] h := by
  intro z
  induction z using Nat.strongRecOn with
  | _ z ih =>
    intro h l0 l1 l2 l3 l4 hI
    exact bX6_setTurned_21 C D g6 (fun h l0 l1 l2 l3 l4 hJ => by obtain ⟨z', hz, hi⟩ := hJ; exact ih z' hz h l0 l1 l2 l3 l4 hi) (step z h l0 l1 l2 l3 l4 hI)
def PX6_setTurned_6 (E : EV) (post : Option AV → AH → Prop) (J21 : AH → Option Nat → Option Nat → Int32 → Int32 → Int32 → Prop) (h : AH) (l0 : Option Nat) (l1 : Option Nat) (l2 : Int32) (l3 : Int32) : Prop :=
  rdI h l1 6 3 fun x1 => (x1 ≤ l3 → post none h) ∧ (¬ x1 ≤ l3 → CV (sX6_start E) l1 6 [aI l3] h (kI fun x2 h3 => J21 h3 l0 l1 l2 l3 x2))
theorem bX6_setTurned_6 {E : EV} {X : AX} {post : Option AV → AH → Prop} (C : Cb E X cX6_setTurned RX6 5 rmX6_setTurned) (D : Cr E X none rmX6_setTurned "setTurned" post) {J21 : AH → Option Nat → Option Nat → Int32 → Int32 → Int32 → Prop} (g21 : ∀ (h : AH) (l0 : Option Nat) (l1 : Option Nat) (l2 : Int32) (l3 : Int32) (l4 : Int32), J21 h l0 l1 l2 l3 l4 → Go E X 5 0 0 21 [(0, aP l0), (1, aP l1), (2, aI l2), (3, aI l3), (4, aI l4)] [] h) {h : AH} {l0 : Option Nat} {l1 : Option Nat} {l2 : Int32} {l3 : Int32} (w : PX6_setTurned_6 E post J21 h l0 l1 l2 l3) : Go E X 5 0 0 6 [(0, aP l0), (1, aP l1), (2, aI l2), (3, aI l3)] [] h := by
  unfold PX6_setTurned_6 at w
  refine r_iload_n C dX6_setTurned_6 rfl 3 rfl ?_
  refine r_aload_n C dX6_setTurned_7 rfl 1 rfl ?_
  refine r_getI C fcX6 (f := 3) (by decide) rfl k30 dX6_setTurned_8 (w.mono fun x1 w => ?_)
  refine r_icmp_ge C dX6_setTurned_11 (tgt := 85) rfl (fun hc => ?_) (fun hc => ?_)
  · have w := w.1 hc
    exact r_vret C D rfl (Nat.zero_le _) (Nat.zero_le _) dX6_setTurned_85 w
  · have w := w.2 hc
    refine r_aload_n C dX6_setTurned_14 rfl 1 rfl ?_
    refine r_iload_n C dX6_setTurned_15 rfl 3 rfl ?_
    refine r_cvI (rm' := rmX6_start) C mX6_start vX6_start k436 [aI l3] [] rfl rfl (Nat.le_of_ble_eq_true rfl) (by decide) ⟨Nat.zero_le _, Nat.zero_le _⟩ 0 0 rfl rfl dX6_setTurned_16 w (fun x2 h3 w => ?_)
    refine r_istore C dX6_setTurned_19 (by decide) rfl ?_
    exact r_sub [1, 2, 3, 4, 0] rfl (g21 h3 l0 l1 l2 l3 x2 w)
def PX6_setTurned_0 (E : EV) (post : Option AV → AH → Prop) (J6 : AH → Option Nat → Option Nat → Int32 → Int32 → Prop) (h : AH) (l0 : Option Nat) (l1 : Option Nat) (l2 : Int32) : Prop :=
  CV (sX6_clear E) l0 6 [] h (kV fun h2 => J6 h2 l0 l1 l2 (0 : Int32))
theorem bX6_setTurned_0 {E : EV} {X : AX} {post : Option AV → AH → Prop} (C : Cb E X cX6_setTurned RX6 5 rmX6_setTurned) (D : Cr E X none rmX6_setTurned "setTurned" post) {J6 : AH → Option Nat → Option Nat → Int32 → Int32 → Prop} (g6 : ∀ (h : AH) (l0 : Option Nat) (l1 : Option Nat) (l2 : Int32) (l3 : Int32), J6 h l0 l1 l2 l3 → Go E X 5 0 0 6 [(0, aP l0), (1, aP l1), (2, aI l2), (3, aI l3)] [] h) {h : AH} {l0 : Option Nat} {l1 : Option Nat} {l2 : Int32} (w : PX6_setTurned_0 E post J6 h l0 l1 l2) : Go E X 5 0 0 0 [(0, aP l0), (1, aP l1), (2, aI l2)] [] h := by
  unfold PX6_setTurned_0 at w
  refine r_aload_n C dX6_setTurned_0 rfl 0 rfl ?_
  refine r_cvV (rm' := rmX6_clear) C mX6_clear vX6_clear k766 [] [] rfl rfl (Nat.le_of_ble_eq_true rfl) (by decide) ⟨Nat.zero_le _, Nat.zero_le _⟩ 0 0 rfl rfl dX6_setTurned_1 w (fun h2 w => ?_)
  refine r_iconst (v := 0) C dX6_setTurned_4 rfl ?_
  refine r_istore_n C dX6_setTurned_5 rfl (by decide) rfl ?_
  exact r_sub [1, 2, 3, 0] rfl (g6 h2 l0 l1 l2 (0 : Int32) w)
theorem eX6_setTurned {E : EV} {post : Option AV → AH → Prop} {h : AH} {l0 : Option Nat} {l1 : Option Nat} {l2 : Int32} {J6 : AH → Option Nat → Option Nat → Int32 → Int32 → Prop} (g6 : ∀ X : AX, Cb E X cX6_setTurned RX6 5 rmX6_setTurned → Cr E X none rmX6_setTurned "setTurned" post → ∀ (h : AH) (l0 : Option Nat) (l1 : Option Nat) (l2 : Int32) (l3 : Int32), J6 h l0 l1 l2 l3 → Go E X 5 0 0 6 [(0, aP l0), (1, aP l1), (2, aI l2), (3, aI l3)] [] h) (w : PX6_setTurned_0 E post J6 h l0 l1 l2) : sX6_setTurned E [aP l0, aP l1, aI l2] h post := Spec.of RX6 rfl rfl (Nat.le_of_ble_eq_true rfl) fun X C D => bX6_setTurned_0 C D (g6 X C D) w
theorem dX7_init_0 : decode cX7_init 0 = .ok (.aload_n 0, 1) := by decide +kernel
theorem dX7_init_1 : decode cX7_init 1 = .ok (.invokespecial 3, 3) := by decide +kernel
theorem dX7_init_4 : decode cX7_init 4 = .ok (.aload_n 0, 1) := by decide +kernel
theorem dX7_init_5 : decode cX7_init 5 = .ok (.new 9, 3) := by decide +kernel
theorem dX7_init_8 : decode cX7_init 8 = .ok (.dup, 1) := by decide +kernel
theorem dX7_init_9 : decode cX7_init 9 = .ok (.invokespecial 11, 3) := by decide +kernel
theorem dX7_init_12 : decode cX7_init 12 = .ok (.putfield 12, 3) := by decide +kernel
theorem dX7_init_15 : decode cX7_init 15 = .ok (.aload_n 0, 1) := by decide +kernel
theorem dX7_init_16 : decode cX7_init 16 = .ok (.new 18, 3) := by decide +kernel
theorem dX7_init_19 : decode cX7_init 19 = .ok (.dup, 1) := by decide +kernel
theorem dX7_init_20 : decode cX7_init 20 = .ok (.invokespecial 20, 3) := by decide +kernel
theorem dX7_init_23 : decode cX7_init 23 = .ok (.putfield 21, 3) := by decide +kernel
theorem dX7_init_26 : decode cX7_init 26 = .ok (.return_, 1) := by decide +kernel
abbrev rmX7_init : Room := { frames := 2, cells := 7, slots := 94, locals := 80 }
abbrev sX7_init (E : EV) : List AV → AH → (Option AV → AH → Prop) → Prop := Spec E yX7_init cX7_init 1 none rmX7_init
theorem mX7_init : Mt yX7_init cX7_init 1 none 0 := ⟨k96, k4, by decide +kernel⟩
theorem vX7_init : MtI yX7_init := ⟨rfl, k95⟩
def PX7_init_0 (E : EV) (post : Option AV → AH → Prop) (k n : Nat) (h : AH) (l0 : Nat) : Prop :=
  (k + 1 ≤ 7 ∧ n + 9 ≤ 94) ∧ (∀ h1, h1 = h ++ [.inr (6, [aP none, aP none, aP none, aI 0, aI 0, aI 0, aI 0, aI 0, aI 0])] → ((k + 1) + 3 ≤ 7 ∧ (n + 9) + 40 ≤ 94) ∧ CS (sX6_init E) [aP (some h.length)] h1 (kV fun h3 => wr h3 (some l0) 7 0 (aP (some h.length)) fun h4 => (((k + 1) + 3) + 1 ≤ 7 ∧ ((n + 9) + 40) + 8 ≤ 94) ∧ (∀ h5, h5 = h4 ++ [.inr (5, [aP none, aP none, aI 0, aI 0, aI 0, aI 0, aI 0, aI 0])] → ((((k + 1) + 3) + 1) + 2 ≤ 7 ∧ (((n + 9) + 40) + 8) + 36 ≤ 94) ∧ CS (sX5_init E) [aP (some h4.length)] h5 (kV fun h7 => wr h7 (some l0) 7 1 (aP (some h4.length)) fun h8 => (((((k + 1) + 3) + 1) + 2) ≤ 7 ∧ ((((n + 9) + 40) + 8) + 36) ≤ 94) ∧ post none h8))))
theorem bX7_init_0 {E : EV} {X : AX} {post : Option AV → AH → Prop} (C : Cb E X cX7_init RX7 1 rmX7_init) (D : Cr E X none rmX7_init "<init>" post) {k n : Nat} {h : AH} {l0 : Nat} (w : PX7_init_0 E post k n h l0) : Go E X 1 k n 0 [(0, aP (some l0))] [] h := by
  unfold PX7_init_0 at w
  refine r_aload_n C dX7_init_0 rfl 0 rfl ?_
  refine r_objInit C k97 k19 k20 (by decide) (by decide) (Nat.le_of_ble_eq_true rfl) dX7_init_1 ?_
  refine r_aload_n C dX7_init_4 rfl 0 rfl ?_
  refine r_new (fs := [aP none, aP none, aP none, aI 0, aI 0, aI 0, aI 0, aI 0, aI 0]) C fcX6 rfl df_X6 k98 k22 k2 w.1.1 w.1.2 dX7_init_5 ?_
  have w := w.2 _ rfl
  generalize h ++ [.inr (6, [aP none, aP none, aP none, aI 0, aI 0, aI 0, aI 0, aI 0, aI 0])] = h1 at w ⊢
  refine r_dup C dX7_init_8 rfl ?_
  refine r_ciV (rm' := rmX6_init) C mX6_init vX6_init (host := "NestingPlanner") (Or.inr nk99) [] [aP (some h.length), aP (some l0)] rfl rfl (Nat.le_of_ble_eq_true rfl) (by decide) w.1 ((k + 1) + 3) ((n + 9) + 40) rfl rfl dX7_init_9 rfl w.2 (fun h3 w => ?_)
  refine r_putF C D fcX7 (f := 0) (by decide) rfl rfl rfl rfl (ft_P _ _) k132 dX7_init_12 (w.mono fun h4 w => ?_)
  refine r_aload_n C dX7_init_15 rfl 0 rfl ?_
  refine r_new (fs := [aP none, aP none, aI 0, aI 0, aI 0, aI 0, aI 0, aI 0]) C fcX5 rfl df_X5 k100 k101 k5 w.1.1 w.1.2 dX7_init_16 ?_
  have w := w.2 _ rfl
  generalize h4 ++ [.inr (5, [aP none, aP none, aI 0, aI 0, aI 0, aI 0, aI 0, aI 0])] = h5 at w ⊢
  refine r_dup C dX7_init_19 rfl ?_
  refine r_ciV (rm' := rmX5_init) C mX5_init vX5_init (host := "NestingPlanner") (Or.inr nk102) [] [aP (some h4.length), aP (some l0)] rfl rfl (Nat.le_of_ble_eq_true rfl) (by decide) w.1 ((((k + 1) + 3) + 1) + 2) ((((n + 9) + 40) + 8) + 36) rfl rfl dX7_init_20 rfl w.2 (fun h7 w => ?_)
  refine r_putF C D fcX7 (f := 1) (by decide) rfl rfl rfl rfl (ft_P _ _) k134 dX7_init_23 (w.mono fun h8 w => ?_)
  exact r_vret C D rfl w.1.1 w.1.2 dX7_init_26 w.2
theorem eX7_init {E : EV} {post : Option AV → AH → Prop} {h : AH} {l0 : Nat} (w : PX7_init_0 E post 0 0 h l0) : sX7_init E [aP (some l0)] h post := Spec.of RX7 rfl rfl (Nat.le_of_ble_eq_true rfl) fun X C D => bX7_init_0 C D w
theorem dX9_isNext_0 : decode cX9_isNext 0 = .ok (.aload_n 0, 1) := by decide +kernel
theorem dX9_isNext_1 : decode cX9_isNext 1 = .ok (.invokevirtual 22, 3) := by decide +kernel
theorem dX9_isNext_4 : decode cX9_isNext 4 = .ok (.aload_n 0, 1) := by decide +kernel
theorem dX9_isNext_5 : decode cX9_isNext 5 = .ok (.invokevirtual 25, 3) := by decide +kernel
theorem dX9_isNext_8 : decode cX9_isNext 8 = .ok (.iload_n 1, 1) := by decide +kernel
theorem dX9_isNext_9 : decode cX9_isNext 9 = .ok (.if_icmp .ne 7, 3) := by decide +kernel
theorem dX9_isNext_12 : decode cX9_isNext 12 = .ok (.iconst 1, 1) := by decide +kernel
theorem dX9_isNext_13 : decode cX9_isNext 13 = .ok (.goto 4, 3) := by decide +kernel
theorem dX9_isNext_16 : decode cX9_isNext 16 = .ok (.iconst 0, 1) := by decide +kernel
theorem dX9_isNext_17 : decode cX9_isNext 17 = .ok (.ireturn, 1) := by decide +kernel
abbrev rmX9_isNext : Room := { frames := 1, cells := 0, slots := 0, locals := 40 }
abbrev sX9_isNext (E : EV) : List AV → AH → (Option AV → AH → Prop) → Prop := Spec E yX9_isNext cX9_isNext 2 (some .boolean) rmX9_isNext
theorem mX9_isNext : Mt yX9_isNext cX9_isNext 2 (some .boolean) 1 := ⟨k719, k3, by decide +kernel⟩
theorem vX9_isNext : MtV yX9_isNext 9 := ⟨k717, k718, by decide, (RX9, TX9, 4), rfl, rfl⟩
def PX9_isNext_0 (E : EV) (post : Option AV → AH → Prop) (h : AH) (l0 : Option Nat) (l1 : Int32) : Prop :=
  CV (sX9_skipSpaces E) l0 9 [] h (kV fun h2 => CV (sX9_current E) l0 9 [] h2 (kI fun x3 h4 => (¬ x3 = l1 → post (some (aI (0 : Int32))) h4) ∧ (x3 = l1 → post (some (aI (1 : Int32))) h4)))
theorem bX9_isNext_0 {E : EV} {X : AX} {post : Option AV → AH → Prop} (C : Cb E X cX9_isNext RX9 2 rmX9_isNext) (D : Cr E X (some .boolean) rmX9_isNext "isNext" post) {h : AH} {l0 : Option Nat} {l1 : Int32} (w : PX9_isNext_0 E post h l0 l1) : Go E X 2 0 0 0 [(0, aP l0), (1, aI l1)] [] h := by
  unfold PX9_isNext_0 at w
  refine r_aload_n C dX9_isNext_0 rfl 0 rfl ?_
  refine r_cvV (rm' := rmX9_skipSpaces) C mX9_skipSpaces vX9_skipSpaces k703 [] [] rfl rfl (Nat.le_of_ble_eq_true rfl) (by decide) ⟨Nat.zero_le _, Nat.zero_le _⟩ 0 0 rfl rfl dX9_isNext_1 w (fun h2 w => ?_)
  refine r_aload_n C dX9_isNext_4 rfl 0 rfl ?_
  refine r_cvI (rm' := rmX9_current) C mX9_current vX9_current k707 [] [] rfl rfl (Nat.le_of_ble_eq_true rfl) (by decide) ⟨Nat.zero_le _, Nat.zero_le _⟩ 0 0 rfl rfl dX9_isNext_5 w (fun x3 h4 w => ?_)
  refine r_iload_n C dX9_isNext_8 rfl 1 rfl ?_
  refine r_icmp_ne C dX9_isNext_9 (tgt := 16) rfl (fun hc => ?_) (fun hc => ?_)
  · have w := w.1 hc
    refine r_iconst (v := 0) C dX9_isNext_16 rfl ?_
    exact r_zret C D rfl (Or.inl rfl) (Nat.zero_le _) (Nat.zero_le _) dX9_isNext_17 w
  · have w := w.2 hc
    refine r_iconst (v := 1) C dX9_isNext_12 rfl ?_
    refine r_goto C dX9_isNext_13 (tgt := 17) rfl ?_
    exact r_zret C D rfl (Or.inr rfl) (Nat.zero_le _) (Nat.zero_le _) dX9_isNext_17 w
theorem eX9_isNext {E : EV} {post : Option AV → AH → Prop} {h : AH} {l0 : Option Nat} {l1 : Int32} (w : PX9_isNext_0 E post h l0 l1) : sX9_isNext E [aP l0, aI l1] h post := Spec.of RX9 rfl rfl (Nat.le_of_ble_eq_true rfl) fun X C D => bX9_isNext_0 C D w
theorem dX9_readNumber_0 : decode cX9_readNumber 0 = .ok (.aload_n 0, 1) := by decide +kernel
theorem dX9_readNumber_1 : decode cX9_readNumber 1 = .ok (.bipush 45, 2) := by decide +kernel
theorem dX9_readNumber_3 : decode cX9_readNumber 3 = .ok (.invokevirtual 29, 3) := by decide +kernel
theorem dX9_readNumber_6 : decode cX9_readNumber 6 = .ok (.ifCond .eq 7, 3) := by decide +kernel
theorem dX9_readNumber_9 : decode cX9_readNumber 9 = .ok (.iconst (-1), 1) := by decide +kernel
theorem dX9_readNumber_10 : decode cX9_readNumber 10 = .ok (.goto 4, 3) := by decide +kernel
theorem dX9_readNumber_13 : decode cX9_readNumber 13 = .ok (.iconst 1, 1) := by decide +kernel
theorem dX9_readNumber_14 : decode cX9_readNumber 14 = .ok (.istore_n 1, 1) := by decide +kernel
theorem dX9_readNumber_15 : decode cX9_readNumber 15 = .ok (.aload_n 0, 1) := by decide +kernel
theorem dX9_readNumber_16 : decode cX9_readNumber 16 = .ok (.invokevirtual 22, 3) := by decide +kernel
theorem dX9_readNumber_19 : decode cX9_readNumber 19 = .ok (.aload_n 0, 1) := by decide +kernel
theorem dX9_readNumber_20 : decode cX9_readNumber 20 = .ok (.invokevirtual 33, 3) := by decide +kernel
theorem dX9_readNumber_23 : decode cX9_readNumber 23 = .ok (.istore_n 2, 1) := by decide +kernel
theorem dX9_readNumber_24 : decode cX9_readNumber 24 = .ok (.aload_n 0, 1) := by decide +kernel
theorem dX9_readNumber_25 : decode cX9_readNumber 25 = .ok (.iload_n 1, 1) := by decide +kernel
theorem dX9_readNumber_26 : decode cX9_readNumber 26 = .ok (.iload_n 2, 1) := by decide +kernel
theorem dX9_readNumber_27 : decode cX9_readNumber 27 = .ok (.imul, 1) := by decide +kernel
theorem dX9_readNumber_28 : decode cX9_readNumber 28 = .ok (.putfield 36, 3) := by decide +kernel
theorem dX9_readNumber_31 : decode cX9_readNumber 31 = .ok (.iload_n 2, 1) := by decide +kernel
theorem dX9_readNumber_32 : decode cX9_readNumber 32 = .ok (.ifCond .lt 7, 3) := by decide +kernel
theorem dX9_readNumber_35 : decode cX9_readNumber 35 = .ok (.iconst 1, 1) := by decide +kernel
theorem dX9_readNumber_36 : decode cX9_readNumber 36 = .ok (.goto 4, 3) := by decide +kernel
theorem dX9_readNumber_39 : decode cX9_readNumber 39 = .ok (.iconst 0, 1) := by decide +kernel
theorem dX9_readNumber_40 : decode cX9_readNumber 40 = .ok (.ireturn, 1) := by decide +kernel
abbrev rmX9_readNumber : Room := { frames := 2, cells := 0, slots := 0, locals := 80 }
abbrev sX9_readNumber (E : EV) : List AV → AH → (Option AV → AH → Prop) → Prop := Spec E yX9_readNumber cX9_readNumber 3 (some .boolean) rmX9_readNumber
theorem mX9_readNumber : Mt yX9_readNumber cX9_readNumber 3 (some .boolean) 0 := ⟨k727, k3, by decide +kernel⟩
theorem vX9_readNumber : MtV yX9_readNumber 9 := ⟨k725, k726, by decide, (RX9, TX9, 4), rfl, rfl⟩
def PX9_readNumber_14 (E : EV) (post : Option AV → AH → Prop) (h : AH) (l0 : Option Nat) (s0 : Int32) : Prop :=
  CV (sX9_skipSpaces E) l0 9 [] h (kV fun h3 => CV (sX9_takeDigit E) l0 9 [] h3 (kI fun x4 h5 => wr h5 l0 9 3 (aI (s0 * x4)) fun h7 => (x4 < 0 → post (some (aI (0 : Int32))) h7) ∧ (¬ x4 < 0 → post (some (aI (1 : Int32))) h7)))
theorem bX9_readNumber_14 {E : EV} {X : AX} {post : Option AV → AH → Prop} (C : Cb E X cX9_readNumber RX9 3 rmX9_readNumber) (D : Cr E X (some .boolean) rmX9_readNumber "readNumber" post) {h : AH} {l0 : Option Nat} {s0 : Int32} (w : PX9_readNumber_14 E post h l0 s0) : Go E X 3 0 0 14 [(0, aP l0)] [aI s0] h := by
  unfold PX9_readNumber_14 at w
  refine r_istore_n C dX9_readNumber_14 rfl (by decide) rfl ?_
  refine r_aload_n C dX9_readNumber_15 rfl 1 rfl ?_
  refine r_cvV (rm' := rmX9_skipSpaces) C mX9_skipSpaces vX9_skipSpaces k703 [] [] rfl rfl (Nat.le_of_ble_eq_true rfl) (by decide) ⟨Nat.zero_le _, Nat.zero_le _⟩ 0 0 rfl rfl dX9_readNumber_16 w (fun h3 w => ?_)
  refine r_aload_n C dX9_readNumber_19 rfl 1 rfl ?_
  refine r_cvI (rm' := rmX9_takeDigit) C mX9_takeDigit vX9_takeDigit k732 [] [] rfl rfl (Nat.le_of_ble_eq_true rfl) (by decide) ⟨Nat.zero_le _, Nat.zero_le _⟩ 0 0 rfl rfl dX9_readNumber_20 w (fun x4 h5 w => ?_)
  refine r_istore_n C dX9_readNumber_23 rfl (by decide) rfl ?_
  refine r_aload_n C dX9_readNumber_24 rfl 2 rfl ?_
  refine r_iload_n C dX9_readNumber_25 rfl 1 rfl ?_
  refine r_iload_n C dX9_readNumber_26 rfl 0 rfl ?_
  refine r_imul C dX9_readNumber_27 ?_
  refine r_put C fcX9 (f := 3) (by decide) rfl rfl rfl rfl k82 dX9_readNumber_28 (w.mono fun h7 w => ?_)
  refine r_iload_n C dX9_readNumber_31 rfl 0 rfl ?_
  refine r_if_lt C dX9_readNumber_32 (tgt := 39) rfl (fun hc => ?_) (fun hc => ?_)
  · have w := w.1 hc
    refine r_iconst (v := 0) C dX9_readNumber_39 rfl ?_
    exact r_zret C D rfl (Or.inl rfl) (Nat.zero_le _) (Nat.zero_le _) dX9_readNumber_40 w
  · have w := w.2 hc
    refine r_iconst (v := 1) C dX9_readNumber_35 rfl ?_
    refine r_goto C dX9_readNumber_36 (tgt := 40) rfl ?_
    exact r_zret C D rfl (Or.inr rfl) (Nat.zero_le _) (Nat.zero_le _) dX9_readNumber_40 w
def PX9_readNumber_0 (E : EV) (post : Option AV → AH → Prop) (h : AH) (l0 : Option Nat) : Prop :=
  CV (sX9_accept E) l0 9 [aI (45 : Int32)] h (kI fun x1 h2 => (x1 = 0 → PX9_readNumber_14 E post h2 l0 (1 : Int32)) ∧ (¬ x1 = 0 → PX9_readNumber_14 E post h2 l0 (-1 : Int32)))
theorem bX9_readNumber_0 {E : EV} {X : AX} {post : Option AV → AH → Prop} (C : Cb E X cX9_readNumber RX9 3 rmX9_readNumber) (D : Cr E X (some .boolean) rmX9_readNumber "readNumber" post) {h : AH} {l0 : Option Nat} (w : PX9_readNumber_0 E post h l0) : Go E X 3 0 0 0 [(0, aP l0)] [] h := by
  unfold PX9_readNumber_0 at w
  refine r_aload_n C dX9_readNumber_0 rfl 0 rfl ?_
  refine r_bipush (v := 45) C dX9_readNumber_1 rfl ?_
  refine r_cvI (rm' := rmX9_accept) C mX9_accept vX9_accept k728 [aI (45 : Int32)] [] rfl rfl (Nat.le_of_ble_eq_true rfl) (by decide) ⟨Nat.zero_le _, Nat.zero_le _⟩ 0 0 rfl rfl dX9_readNumber_3 w (fun x1 h2 w => ?_)
  refine r_if_eq C dX9_readNumber_6 (tgt := 13) rfl (fun hc => ?_) (fun hc => ?_)
  · have w := w.1 hc
    refine r_iconst (v := 1) C dX9_readNumber_13 rfl ?_
    exact (bX9_readNumber_14 C D w)
  · have w := w.2 hc
    refine r_iconst (v := -1) C dX9_readNumber_9 rfl ?_
    refine r_goto C dX9_readNumber_10 (tgt := 14) rfl ?_
    exact (bX9_readNumber_14 C D w)
theorem eX9_readNumber {E : EV} {post : Option AV → AH → Prop} {h : AH} {l0 : Option Nat} (w : PX9_readNumber_0 E post h l0) : sX9_readNumber E [aP l0] h post := Spec.of RX9 rfl rfl (Nat.le_of_ble_eq_true rfl) fun X C D => bX9_readNumber_0 C D w
theorem dX7_readVertex_0 : decode cX7_readVertex 0 = .ok (.aload_n 1, 1) := by decide +kernel
theorem dX7_readVertex_1 : decode cX7_readVertex 1 = .ok (.invokevirtual 63, 3) := by decide +kernel
theorem dX7_readVertex_4 : decode cX7_readVertex 4 = .ok (.ifCond .ne 5, 3) := by decide +kernel
theorem dX7_readVertex_7 : decode cX7_readVertex 7 = .ok (.iconst 0, 1) := by decide +kernel
theorem dX7_readVertex_8 : decode cX7_readVertex 8 = .ok (.ireturn, 1) := by decide +kernel
theorem dX7_readVertex_9 : decode cX7_readVertex 9 = .ok (.aload_n 1, 1) := by decide +kernel
theorem dX7_readVertex_10 : decode cX7_readVertex 10 = .ok (.getfield 66, 3) := by decide +kernel
theorem dX7_readVertex_13 : decode cX7_readVertex 13 = .ok (.istore_n 2, 1) := by decide +kernel
theorem dX7_readVertex_14 : decode cX7_readVertex 14 = .ok (.aload_n 1, 1) := by decide +kernel
theorem dX7_readVertex_15 : decode cX7_readVertex 15 = .ok (.bipush 44, 2) := by decide +kernel
theorem dX7_readVertex_17 : decode cX7_readVertex 17 = .ok (.invokevirtual 60, 3) := by decide +kernel
theorem dX7_readVertex_20 : decode cX7_readVertex 20 = .ok (.ifCond .eq 10, 3) := by decide +kernel
theorem dX7_readVertex_23 : decode cX7_readVertex 23 = .ok (.aload_n 1, 1) := by decide +kernel
theorem dX7_readVertex_24 : decode cX7_readVertex 24 = .ok (.invokevirtual 63, 3) := by decide +kernel
theorem dX7_readVertex_27 : decode cX7_readVertex 27 = .ok (.ifCond .ne 5, 3) := by decide +kernel
theorem dX7_readVertex_30 : decode cX7_readVertex 30 = .ok (.iconst 0, 1) := by decide +kernel
theorem dX7_readVertex_31 : decode cX7_readVertex 31 = .ok (.ireturn, 1) := by decide +kernel
theorem dX7_readVertex_32 : decode cX7_readVertex 32 = .ok (.aload_n 0, 1) := by decide +kernel
theorem dX7_readVertex_33 : decode cX7_readVertex 33 = .ok (.getfield 21, 3) := by decide +kernel
theorem dX7_readVertex_36 : decode cX7_readVertex 36 = .ok (.iload_n 2, 1) := by decide +kernel
theorem dX7_readVertex_37 : decode cX7_readVertex 37 = .ok (.aload_n 1, 1) := by decide +kernel
theorem dX7_readVertex_38 : decode cX7_readVertex 38 = .ok (.getfield 66, 3) := by decide +kernel
theorem dX7_readVertex_41 : decode cX7_readVertex 41 = .ok (.invokevirtual 69, 3) := by decide +kernel
theorem dX7_readVertex_44 : decode cX7_readVertex 44 = .ok (.iconst 1, 1) := by decide +kernel
theorem dX7_readVertex_45 : decode cX7_readVertex 45 = .ok (.ireturn, 1) := by decide +kernel
abbrev rmX7_readVertex : Room := { frames := 3, cells := 0, slots := 0, locals := 120 }
abbrev sX7_readVertex (E : EV) : List AV → AH → (Option AV → AH → Prop) → Prop := Spec E yX7_readVertex cX7_readVertex 3 (some .boolean) rmX7_readVertex
theorem mX7_readVertex : Mt yX7_readVertex cX7_readVertex 3 (some .boolean) 1 := ⟨k723, k4, by decide +kernel⟩
theorem vX7_readVertex : MtV yX7_readVertex 7 := ⟨k722, kp12, by decide, (RX7, TX7, 2), rfl, rfl⟩
def PX7_readVertex_0 (E : EV) (post : Option AV → AH → Prop) (h : AH) (l0 : Option Nat) (l1 : Option Nat) : Prop :=
  CV (sX9_readNumber E) l1 9 [] h (kI fun x1 h2 => (¬ x1 = 0 → rdI h2 l1 9 3 fun x3 => CV (sX9_accept E) l1 9 [aI (44 : Int32)] h2 (kI fun x5 h6 => (x5 = 0 → post (some (aI (0 : Int32))) h6) ∧ (¬ x5 = 0 → CV (sX9_readNumber E) l1 9 [] h6 (kI fun x7 h8 => (¬ x7 = 0 → rdP h8 l0 7 1 fun x9 => rdI h8 l1 9 3 fun x10 => CV (sX5_add E) x9 5 [aI x3, aI x10] h8 (kV fun h12 => post (some (aI (1 : Int32))) h12)) ∧ (x7 = 0 → post (some (aI (0 : Int32))) h8))))) ∧ (x1 = 0 → post (some (aI (0 : Int32))) h2))
theorem bX7_readVertex_0 {E : EV} {X : AX} {post : Option AV → AH → Prop} (C : Cb E X cX7_readVertex RX7 3 rmX7_readVertex) (D : Cr E X (some .boolean) rmX7_readVertex "readVertex" post) {h : AH} {l0 : Option Nat} {l1 : Option Nat} (w : PX7_readVertex_0 E post h l0 l1) : Go E X 3 0 0 0 [(0, aP l0), (1, aP l1)] [] h := by
  unfold PX7_readVertex_0 at w
  refine r_aload_n C dX7_readVertex_0 rfl 1 rfl ?_
  refine r_cvI (rm' := rmX9_readNumber) C mX9_readNumber vX9_readNumber k724 [] [] rfl rfl (Nat.le_of_ble_eq_true rfl) (by decide) ⟨Nat.zero_le _, Nat.zero_le _⟩ 0 0 rfl rfl dX7_readVertex_1 w (fun x1 h2 w => ?_)
  refine r_if_ne C dX7_readVertex_4 (tgt := 9) rfl (fun hc => ?_) (fun hc => ?_)
  · have w := w.1 hc
    refine r_aload_n C dX7_readVertex_9 rfl 1 rfl ?_
    refine r_getI C fcX9 (f := 3) (by decide) rfl k80 dX7_readVertex_10 (w.mono fun x3 w => ?_)
    refine r_istore_n C dX7_readVertex_13 rfl (by decide) rfl ?_
    refine r_aload_n C dX7_readVertex_14 rfl 2 rfl ?_
    refine r_bipush (v := 44) C dX7_readVertex_15 rfl ?_
    refine r_cvI (rm' := rmX9_accept) C mX9_accept vX9_accept k736 [aI (44 : Int32)] [] rfl rfl (Nat.le_of_ble_eq_true rfl) (by decide) ⟨Nat.zero_le _, Nat.zero_le _⟩ 0 0 rfl rfl dX7_readVertex_17 w (fun x5 h6 w => ?_)
    refine r_if_eq C dX7_readVertex_20 (tgt := 30) rfl (fun hc => ?_) (fun hc => ?_)
    · have w := w.1 hc
      refine r_iconst (v := 0) C dX7_readVertex_30 rfl ?_
      exact r_zret C D rfl (Or.inl rfl) (Nat.zero_le _) (Nat.zero_le _) dX7_readVertex_31 w
    · have w := w.2 hc
      refine r_aload_n C dX7_readVertex_23 rfl 2 rfl ?_
      refine r_cvI (rm' := rmX9_readNumber) C mX9_readNumber vX9_readNumber k724 [] [] rfl rfl (Nat.le_of_ble_eq_true rfl) (by decide) ⟨Nat.zero_le _, Nat.zero_le _⟩ 0 0 rfl rfl dX7_readVertex_24 w (fun x7 h8 w => ?_)
      refine r_if_ne C dX7_readVertex_27 (tgt := 32) rfl (fun hc => ?_) (fun hc => ?_)
      · have w := w.1 hc
        refine r_aload_n C dX7_readVertex_32 rfl 1 rfl ?_
        refine r_getP C fcX7 (f := 1) (by decide) rfl k134 dX7_readVertex_33 (w.mono fun x9 w => ?_)
        refine r_iload_n C dX7_readVertex_36 rfl 0 rfl ?_
        refine r_aload_n C dX7_readVertex_37 rfl 2 rfl ?_
        refine r_getI C fcX9 (f := 3) (by decide) rfl k80 dX7_readVertex_38 (w.mono fun x10 w => ?_)
        refine r_cvV (rm' := rmX5_add) C mX5_add vX5_add k737 [aI x3, aI x10] [] rfl rfl (Nat.le_of_ble_eq_true rfl) (by decide) ⟨Nat.zero_le _, Nat.zero_le _⟩ 0 0 rfl rfl dX7_readVertex_41 w (fun h12 w => ?_)
        refine r_iconst (v := 1) C dX7_readVertex_44 rfl ?_
        exact r_zret C D rfl (Or.inr rfl) (Nat.zero_le _) (Nat.zero_le _) dX7_readVertex_45 w
      · have w := w.2 hc
        refine r_iconst (v := 0) C dX7_readVertex_30 rfl ?_
        exact r_zret C D rfl (Or.inl rfl) (Nat.zero_le _) (Nat.zero_le _) dX7_readVertex_31 w
  · have w := w.2 hc
    refine r_iconst (v := 0) C dX7_readVertex_7 rfl ?_
    exact r_zret C D rfl (Or.inl rfl) (Nat.zero_le _) (Nat.zero_le _) dX7_readVertex_8 w
theorem eX7_readVertex {E : EV} {post : Option AV → AH → Prop} {h : AH} {l0 : Option Nat} {l1 : Option Nat} (w : PX7_readVertex_0 E post h l0 l1) : sX7_readVertex E [aP l0, aP l1] h post := Spec.of RX7 rfl rfl (Nat.le_of_ble_eq_true rfl) fun X C D => bX7_readVertex_0 C D w
theorem dX7_readPiece_0 : decode cX7_readPiece 0 = .ok (.aload_n 0, 1) := by decide +kernel
theorem dX7_readPiece_1 : decode cX7_readPiece 1 = .ok (.getfield 21, 3) := by decide +kernel
theorem dX7_readPiece_4 : decode cX7_readPiece 4 = .ok (.invokevirtual 49, 3) := by decide +kernel
theorem dX7_readPiece_7 : decode cX7_readPiece 7 = .ok (.iconst 0, 1) := by decide +kernel
theorem dX7_readPiece_8 : decode cX7_readPiece 8 = .ok (.istore_n 2, 1) := by decide +kernel
theorem dX7_readPiece_9 : decode cX7_readPiece 9 = .ok (.iload_n 2, 1) := by decide +kernel
theorem dX7_readPiece_10 : decode cX7_readPiece 10 = .ok (.bipush 6, 2) := by decide +kernel
theorem dX7_readPiece_12 : decode cX7_readPiece 12 = .ok (.if_icmp .ge 28, 3) := by decide +kernel
theorem dX7_readPiece_15 : decode cX7_readPiece 15 = .ok (.aload_n 1, 1) := by decide +kernel
theorem dX7_readPiece_16 : decode cX7_readPiece 16 = .ok (.bipush 59, 2) := by decide +kernel
theorem dX7_readPiece_18 : decode cX7_readPiece 18 = .ok (.invokevirtual 50, 3) := by decide +kernel
theorem dX7_readPiece_21 : decode cX7_readPiece 21 = .ok (.ifCond .ne 19, 3) := by decide +kernel
theorem dX7_readPiece_24 : decode cX7_readPiece 24 = .ok (.aload_n 0, 1) := by decide +kernel
theorem dX7_readPiece_25 : decode cX7_readPiece 25 = .ok (.aload_n 1, 1) := by decide +kernel
theorem dX7_readPiece_26 : decode cX7_readPiece 26 = .ok (.invokevirtual 54, 3) := by decide +kernel
theorem dX7_readPiece_29 : decode cX7_readPiece 29 = .ok (.ifCond .ne 5, 3) := by decide +kernel
theorem dX7_readPiece_32 : decode cX7_readPiece 32 = .ok (.iconst 0, 1) := by decide +kernel
theorem dX7_readPiece_33 : decode cX7_readPiece 33 = .ok (.ireturn, 1) := by decide +kernel
theorem dX7_readPiece_34 : decode cX7_readPiece 34 = .ok (.iinc 2 1, 3) := by decide +kernel
theorem dX7_readPiece_37 : decode cX7_readPiece 37 = .ok (.goto (-28), 3) := by decide +kernel
theorem dX7_readPiece_40 : decode cX7_readPiece 40 = .ok (.aload_n 1, 1) := by decide +kernel
theorem dX7_readPiece_41 : decode cX7_readPiece 41 = .ok (.bipush 59, 2) := by decide +kernel
theorem dX7_readPiece_43 : decode cX7_readPiece 43 = .ok (.invokevirtual 50, 3) := by decide +kernel
theorem dX7_readPiece_46 : decode cX7_readPiece 46 = .ok (.ifCond .eq 26, 3) := by decide +kernel
theorem dX7_readPiece_49 : decode cX7_readPiece 49 = .ok (.aload_n 0, 1) := by decide +kernel
theorem dX7_readPiece_50 : decode cX7_readPiece 50 = .ok (.getfield 21, 3) := by decide +kernel
theorem dX7_readPiece_53 : decode cX7_readPiece 53 = .ok (.invokevirtual 57, 3) := by decide +kernel
theorem dX7_readPiece_56 : decode cX7_readPiece 56 = .ok (.ifCond .eq 16, 3) := by decide +kernel
theorem dX7_readPiece_59 : decode cX7_readPiece 59 = .ok (.aload_n 1, 1) := by decide +kernel
theorem dX7_readPiece_60 : decode cX7_readPiece 60 = .ok (.bipush 59, 2) := by decide +kernel
theorem dX7_readPiece_62 : decode cX7_readPiece 62 = .ok (.invokevirtual 60, 3) := by decide +kernel
theorem dX7_readPiece_65 : decode cX7_readPiece 65 = .ok (.ifCond .eq 7, 3) := by decide +kernel
theorem dX7_readPiece_68 : decode cX7_readPiece 68 = .ok (.iconst 1, 1) := by decide +kernel
theorem dX7_readPiece_69 : decode cX7_readPiece 69 = .ok (.goto 4, 3) := by decide +kernel
theorem dX7_readPiece_72 : decode cX7_readPiece 72 = .ok (.iconst 0, 1) := by decide +kernel
theorem dX7_readPiece_73 : decode cX7_readPiece 73 = .ok (.ireturn, 1) := by decide +kernel
abbrev rmX7_readPiece : Room := { frames := 4, cells := 0, slots := 0, locals := 160 }
abbrev sX7_readPiece (E : EV) : List AV → AH → (Option AV → AH → Prop) → Prop := Spec E yX7_readPiece cX7_readPiece 3 (some .boolean) rmX7_readPiece
theorem mX7_readPiece : Mt yX7_readPiece cX7_readPiece 3 (some .boolean) 1 := ⟨k714, k4, by decide +kernel⟩
theorem vX7_readPiece : MtV yX7_readPiece 7 := ⟨k713, kp11, by decide, (RX7, TX7, 2), rfl, rfl⟩
def PX7_readPiece_40 (E : EV) (post : Option AV → AH → Prop) (h : AH) (l0 : Option Nat) (l1 : Option Nat) : Prop :=
  CV (sX9_isNext E) l1 9 [aI (59 : Int32)] h (kI fun x1 h2 => (x1 = 0 → post (some (aI (0 : Int32))) h2) ∧ (¬ x1 = 0 → rdP h2 l0 7 1 fun x3 => CV (sX5_isConvex E) x3 5 [] h2 (kI fun x4 h5 => (x4 = 0 → post (some (aI (0 : Int32))) h5) ∧ (¬ x4 = 0 → CV (sX9_accept E) l1 9 [aI (59 : Int32)] h5 (kI fun x6 h7 => (x6 = 0 → post (some (aI (0 : Int32))) h7) ∧ (¬ x6 = 0 → post (some (aI (1 : Int32))) h7))))))
theorem bX7_readPiece_40 {E : EV} {X : AX} {post : Option AV → AH → Prop} (C : Cb E X cX7_readPiece RX7 3 rmX7_readPiece) (D : Cr E X (some .boolean) rmX7_readPiece "readPiece" post) {h : AH} {l0 : Option Nat} {l1 : Option Nat} (w : PX7_readPiece_40 E post h l0 l1) : Go E X 3 0 0 40 [(0, aP l0), (1, aP l1)] [] h := by
  unfold PX7_readPiece_40 at w
  refine r_aload_n C dX7_readPiece_40 rfl 1 rfl ?_
  refine r_bipush (v := 59) C dX7_readPiece_41 rfl ?_
  refine r_cvI (rm' := rmX9_isNext) C mX9_isNext vX9_isNext k716 [aI (59 : Int32)] [] rfl rfl (Nat.le_of_ble_eq_true rfl) (by decide) ⟨Nat.zero_le _, Nat.zero_le _⟩ 0 0 rfl rfl dX7_readPiece_43 w (fun x1 h2 w => ?_)
  refine r_if_eq C dX7_readPiece_46 (tgt := 72) rfl (fun hc => ?_) (fun hc => ?_)
  · have w := w.1 hc
    refine r_iconst (v := 0) C dX7_readPiece_72 rfl ?_
    exact r_zret C D rfl (Or.inl rfl) (Nat.zero_le _) (Nat.zero_le _) dX7_readPiece_73 w
  · have w := w.2 hc
    refine r_aload_n C dX7_readPiece_49 rfl 0 rfl ?_
    refine r_getP C fcX7 (f := 1) (by decide) rfl k134 dX7_readPiece_50 (w.mono fun x3 w => ?_)
    refine r_cvI (rm' := rmX5_isConvex) C mX5_isConvex vX5_isConvex k738 [] [] rfl rfl (Nat.le_of_ble_eq_true rfl) (by decide) ⟨Nat.zero_le _, Nat.zero_le _⟩ 0 0 rfl rfl dX7_readPiece_53 w (fun x4 h5 w => ?_)
    refine r_if_eq C dX7_readPiece_56 (tgt := 72) rfl (fun hc => ?_) (fun hc => ?_)
    · have w := w.1 hc
      refine r_iconst (v := 0) C dX7_readPiece_72 rfl ?_
      exact r_zret C D rfl (Or.inl rfl) (Nat.zero_le _) (Nat.zero_le _) dX7_readPiece_73 w
    · have w := w.2 hc
      refine r_aload_n C dX7_readPiece_59 rfl 1 rfl ?_
      refine r_bipush (v := 59) C dX7_readPiece_60 rfl ?_
      refine r_cvI (rm' := rmX9_accept) C mX9_accept vX9_accept k736 [aI (59 : Int32)] [] rfl rfl (Nat.le_of_ble_eq_true rfl) (by decide) ⟨Nat.zero_le _, Nat.zero_le _⟩ 0 0 rfl rfl dX7_readPiece_62 w (fun x6 h7 w => ?_)
      refine r_if_eq C dX7_readPiece_65 (tgt := 72) rfl (fun hc => ?_) (fun hc => ?_)
      · have w := w.1 hc
        refine r_iconst (v := 0) C dX7_readPiece_72 rfl ?_
        exact r_zret C D rfl (Or.inl rfl) (Nat.zero_le _) (Nat.zero_le _) dX7_readPiece_73 w
      · have w := w.2 hc
        refine r_iconst (v := 1) C dX7_readPiece_68 rfl ?_
        refine r_goto C dX7_readPiece_69 (tgt := 73) rfl ?_
        exact r_zret C D rfl (Or.inr rfl) (Nat.zero_le _) (Nat.zero_le _) dX7_readPiece_73 w
def PX7_readPiece_9 (E : EV) (post : Option AV → AH → Prop) (J9 : AH → Option Nat → Option Nat → Int32 → Prop) (h : AH) (l0 : Option Nat) (l1 : Option Nat) (l2 : Int32) : Prop :=
  ((6 : Int32) ≤ l2 → PX7_readPiece_40 E post h l0 l1) ∧ (¬ (6 : Int32) ≤ l2 → CV (sX9_isNext E) l1 9 [aI (59 : Int32)] h (kI fun x1 h2 => (¬ x1 = 0 → PX7_readPiece_40 E post h2 l0 l1) ∧ (x1 = 0 → CV (sX7_readVertex E) l0 7 [aP l1] h2 (kI fun x3 h4 => (¬ x3 = 0 → J9 h4 l0 l1 (l2 + (1 : Int32))) ∧ (x3 = 0 → post (some (aI (0 : Int32))) h4)))))
theorem bX7_readPiece_9 {E : EV} {X : AX} {post : Option AV → AH → Prop} (C : Cb E X cX7_readPiece RX7 3 rmX7_readPiece) (D : Cr E X (some .boolean) rmX7_readPiece "readPiece" post) {J9 : AH → Option Nat → Option Nat → Int32 → Prop} (g9 : ∀ (h : AH) (l0 : Option Nat) (l1 : Option Nat) (l2 : Int32), J9 h l0 l1 l2 → Go E X 3 0 0 9 [(0, aP l0), (1, aP l1), (2, aI l2)] [] h) {h : AH} {l0 : Option Nat} {l1 : Option Nat} {l2 : Int32} (w : PX7_readPiece_9 E post J9 h l0 l1 l2) : Go E X 3 0 0 9 [(0, aP l0), (1, aP l1), (2, aI l2)] [] h := by
  unfold PX7_readPiece_9 at w
  refine r_iload_n C dX7_readPiece_9 rfl 2 rfl ?_
  refine r_bipush (v := 6) C dX7_readPiece_10 rfl ?_
  refine r_icmp_ge C dX7_readPiece_12 (tgt := 40) rfl (fun hc => ?_) (fun hc => ?_)
  · have w := w.1 hc
    exact r_sub [0, 1] rfl (bX7_readPiece_40 C D w)
  · have w := w.2 hc
    refine r_aload_n C dX7_readPiece_15 rfl 1 rfl ?_
    refine r_bipush (v := 59) C dX7_readPiece_16 rfl ?_
    refine r_cvI (rm' := rmX9_isNext) C mX9_isNext vX9_isNext k716 [aI (59 : Int32)] [] rfl rfl (Nat.le_of_ble_eq_true rfl) (by decide) ⟨Nat.zero_le _, Nat.zero_le _⟩ 0 0 rfl rfl dX7_readPiece_18 w (fun x1 h2 w => ?_)
    refine r_if_ne C dX7_readPiece_21 (tgt := 40) rfl (fun hc => ?_) (fun hc => ?_)
    · have w := w.1 hc
      exact r_sub [0, 1] rfl (bX7_readPiece_40 C D w)
    · have w := w.2 hc
      refine r_aload_n C dX7_readPiece_24 rfl 0 rfl ?_
      refine r_aload_n C dX7_readPiece_25 rfl 1 rfl ?_
      refine r_cvI (rm' := rmX7_readVertex) C mX7_readVertex vX7_readVertex k720 [aP l1] [] rfl rfl (Nat.le_of_ble_eq_true rfl) (by decide) ⟨Nat.zero_le _, Nat.zero_le _⟩ 0 0 rfl rfl dX7_readPiece_26 w (fun x3 h4 w => ?_)
      refine r_if_ne C dX7_readPiece_29 (tgt := 34) rfl (fun hc => ?_) (fun hc => ?_)
      · have w := w.1 hc
        refine r_iinc C dX7_readPiece_34 2 rfl (v := 1) rfl (by decide) rfl ?_
        refine r_goto C dX7_readPiece_37 (tgt := 9) rfl ?_
        exact r_sub [1, 2, 0] rfl (g9 h4 l0 l1 (l2 + (1 : Int32)) w)
      · have w := w.2 hc
        refine r_iconst (v := 0) C dX7_readPiece_32 rfl ?_
        exact r_zret C D rfl (Or.inl rfl) (Nat.zero_le _) (Nat.zero_le _) dX7_readPiece_33 w
theorem lpX7_readPiece_9 {E : EV} {X : AX} {post : Option AV → AH → Prop} (C : Cb E X cX7_readPiece RX7 3 rmX7_readPiece) (D : Cr E X (some .boolean) rmX7_readPiece "readPiece" post) (I : Nat → AH → Option Nat → Option Nat → Int32 → Prop) (step : ∀ (z : Nat) (h : AH) (l0 : Option Nat) (l1 : Option Nat) (l2 : Int32), I z h l0 l1 l2 → PX7_readPiece_9 E post (fun h l0 l1 l2 => ∃ z', z' < z ∧ I z' h l0 l1 l2) h l0 l1 l2) : ∀ (z : Nat) (h : AH) (l0 : Option Nat) (l1 : Option Nat) (l2 : Int32), I z h l0 l1 l2 → Go E X 3 0 0 9 [(0, aP l0), (1, aP l1), (2, aI l2)] [] h := by
  intro z
  induction z using Nat.strongRecOn with
  | _ z ih =>
    intro h l0 l1 l2 hI
    exact bX7_readPiece_9 C D (fun h l0 l1 l2 hJ => by obtain ⟨z', hz, hi⟩ := hJ; exact ih z' hz h l0 l1 l2 hi) (step z h l0 l1 l2 hI)
def PX7_readPiece_0 (E : EV) (post : Option AV → AH → Prop) (J9 : AH → Option Nat → Option Nat → Int32 → Prop) (h : AH) (l0 : Option Nat) (l1 : Option Nat) : Prop :=
  rdP h l0 7 1 fun x1 => CV (sX5_clear E) x1 5 [] h (kV fun h3 => J9 h3 l0 l1 (0 : Int32))
theorem bX7_readPiece_0 {E : EV} {X : AX} {post : Option AV → AH → Prop} (C : Cb E X cX7_readPiece RX7 3 rmX7_readPiece) (D : Cr E X (some .boolean) rmX7_readPiece "readPiece" post) {J9 : AH → Option Nat → Option Nat → Int32 → Prop} (g9 : ∀ (h : AH) (l0 : Option Nat) (l1 : Option Nat) (l2 : Int32), J9 h l0 l1 l2 → Go E X 3 0 0 9 [(0, aP l0), (1, aP l1), (2, aI l2)] [] h) {h : AH} {l0 : Option Nat} {l1 : Option Nat} (w : PX7_readPiece_0 E post J9 h l0 l1) : Go E X 3 0 0 0 [(0, aP l0), (1, aP l1)] [] h := by
  unfold PX7_readPiece_0 at w
  refine r_aload_n C dX7_readPiece_0 rfl 0 rfl ?_
  refine r_getP C fcX7 (f := 1) (by decide) rfl k134 dX7_readPiece_1 (w.mono fun x1 w => ?_)
  refine r_cvV (rm' := rmX5_clear) C mX5_clear vX5_clear k715 [] [] rfl rfl (Nat.le_of_ble_eq_true rfl) (by decide) ⟨Nat.zero_le _, Nat.zero_le _⟩ 0 0 rfl rfl dX7_readPiece_4 w (fun h3 w => ?_)
  refine r_iconst (v := 0) C dX7_readPiece_7 rfl ?_
  refine r_istore_n C dX7_readPiece_8 rfl (by decide) rfl ?_
  exact r_sub [1, 2, 0] rfl (g9 h3 l0 l1 (0 : Int32) w)
theorem eX7_readPiece {E : EV} {post : Option AV → AH → Prop} {h : AH} {l0 : Option Nat} {l1 : Option Nat} {J9 : AH → Option Nat → Option Nat → Int32 → Prop} (g9 : ∀ X : AX, Cb E X cX7_readPiece RX7 3 rmX7_readPiece → Cr E X (some .boolean) rmX7_readPiece "readPiece" post → ∀ (h : AH) (l0 : Option Nat) (l1 : Option Nat) (l2 : Int32), J9 h l0 l1 l2 → Go E X 3 0 0 9 [(0, aP l0), (1, aP l1), (2, aI l2)] [] h) (w : PX7_readPiece_0 E post J9 h l0 l1) : sX7_readPiece E [aP l0, aP l1] h post := Spec.of RX7 rfl rfl (Nat.le_of_ble_eq_true rfl) fun X C D => bX7_readPiece_0 C D (g9 X C D) w
theorem dX7_read_0 : decode cX7_read 0 = .ok (.aload_n 0, 1) := by decide +kernel
theorem dX7_read_1 : decode cX7_read 1 = .ok (.getfield 12, 3) := by decide +kernel
theorem dX7_read_4 : decode cX7_read 4 = .ok (.invokevirtual 25, 3) := by decide +kernel
theorem dX7_read_7 : decode cX7_read 7 = .ok (.aload_n 1, 1) := by decide +kernel
theorem dX7_read_8 : decode cX7_read 8 = .ok (.iconst 0, 1) := by decide +kernel
theorem dX7_read_9 : decode cX7_read 9 = .ok (.putfield 28, 3) := by decide +kernel
theorem dX7_read_12 : decode cX7_read 12 = .ok (.iconst 0, 1) := by decide +kernel
theorem dX7_read_13 : decode cX7_read 13 = .ok (.istore_n 2, 1) := by decide +kernel
theorem dX7_read_14 : decode cX7_read 14 = .ok (.iload_n 2, 1) := by decide +kernel
theorem dX7_read_15 : decode cX7_read 15 = .ok (.iconst 3, 1) := by decide +kernel
theorem dX7_read_16 : decode cX7_read 16 = .ok (.if_icmp .ge 37, 3) := by decide +kernel
theorem dX7_read_19 : decode cX7_read 19 = .ok (.aload_n 1, 1) := by decide +kernel
theorem dX7_read_20 : decode cX7_read 20 = .ok (.invokevirtual 34, 3) := by decide +kernel
theorem dX7_read_23 : decode cX7_read 23 = .ok (.ifCond .ne 30, 3) := by decide +kernel
theorem dX7_read_26 : decode cX7_read 26 = .ok (.aload_n 0, 1) := by decide +kernel
theorem dX7_read_27 : decode cX7_read 27 = .ok (.aload_n 1, 1) := by decide +kernel
theorem dX7_read_28 : decode cX7_read 28 = .ok (.invokevirtual 38, 3) := by decide +kernel
theorem dX7_read_31 : decode cX7_read 31 = .ok (.ifCond .ne 5, 3) := by decide +kernel
theorem dX7_read_34 : decode cX7_read 34 = .ok (.iconst 0, 1) := by decide +kernel
theorem dX7_read_35 : decode cX7_read 35 = .ok (.ireturn, 1) := by decide +kernel
theorem dX7_read_36 : decode cX7_read 36 = .ok (.aload_n 0, 1) := by decide +kernel
theorem dX7_read_37 : decode cX7_read 37 = .ok (.getfield 12, 3) := by decide +kernel
theorem dX7_read_40 : decode cX7_read 40 = .ok (.aload_n 0, 1) := by decide +kernel
theorem dX7_read_41 : decode cX7_read 41 = .ok (.getfield 21, 3) := by decide +kernel
theorem dX7_read_44 : decode cX7_read 44 = .ok (.invokevirtual 42, 3) := by decide +kernel
theorem dX7_read_47 : decode cX7_read 47 = .ok (.iinc 2 1, 3) := by decide +kernel
theorem dX7_read_50 : decode cX7_read 50 = .ok (.goto (-36), 3) := by decide +kernel
theorem dX7_read_53 : decode cX7_read 53 = .ok (.aload_n 1, 1) := by decide +kernel
theorem dX7_read_54 : decode cX7_read 54 = .ok (.invokevirtual 34, 3) := by decide +kernel
theorem dX7_read_57 : decode cX7_read 57 = .ok (.ifCond .eq 17, 3) := by decide +kernel
theorem dX7_read_60 : decode cX7_read 60 = .ok (.aload_n 0, 1) := by decide +kernel
theorem dX7_read_61 : decode cX7_read 61 = .ok (.getfield 12, 3) := by decide +kernel
theorem dX7_read_64 : decode cX7_read 64 = .ok (.invokevirtual 46, 3) := by decide +kernel
theorem dX7_read_67 : decode cX7_read 67 = .ok (.ifCond .ne 7, 3) := by decide +kernel
theorem dX7_read_70 : decode cX7_read 70 = .ok (.iconst 1, 1) := by decide +kernel
theorem dX7_read_71 : decode cX7_read 71 = .ok (.goto 4, 3) := by decide +kernel
theorem dX7_read_74 : decode cX7_read 74 = .ok (.iconst 0, 1) := by decide +kernel
theorem dX7_read_75 : decode cX7_read 75 = .ok (.ireturn, 1) := by decide +kernel
abbrev rmX7_read : Room := { frames := 5, cells := 0, slots := 0, locals := 200 }
abbrev sX7_read (E : EV) : List AV → AH → (Option AV → AH → Prop) → Prop := Spec E yX7_read cX7_read 3 (some .boolean) rmX7_read
theorem mX7_read : Mt yX7_read cX7_read 3 (some .boolean) 1 := ⟨k694, k4, by decide +kernel⟩
theorem vX7_read : MtV yX7_read 7 := ⟨k692, k693, by decide, (RX7, TX7, 2), rfl, rfl⟩
def PX7_read_53 (E : EV) (post : Option AV → AH → Prop) (h : AH) (l0 : Option Nat) (l1 : Option Nat) : Prop :=
  CV (sX9_isAtEnd E) l1 9 [] h (kI fun x1 h2 => (x1 = 0 → post (some (aI (0 : Int32))) h2) ∧ (¬ x1 = 0 → rdP h2 l0 7 0 fun x3 => CV (sX6_isEmpty E) x3 6 [] h2 (kI fun x4 h5 => (¬ x4 = 0 → post (some (aI (0 : Int32))) h5) ∧ (x4 = 0 → post (some (aI (1 : Int32))) h5))))
theorem bX7_read_53 {E : EV} {X : AX} {post : Option AV → AH → Prop} (C : Cb E X cX7_read RX7 3 rmX7_read) (D : Cr E X (some .boolean) rmX7_read "read" post) {h : AH} {l0 : Option Nat} {l1 : Option Nat} (w : PX7_read_53 E post h l0 l1) : Go E X 3 0 0 53 [(0, aP l0), (1, aP l1)] [] h := by
  unfold PX7_read_53 at w
  refine r_aload_n C dX7_read_53 rfl 1 rfl ?_
  refine r_cvI (rm' := rmX9_isAtEnd) C mX9_isAtEnd vX9_isAtEnd k699 [] [] rfl rfl (Nat.le_of_ble_eq_true rfl) (by decide) ⟨Nat.zero_le _, Nat.zero_le _⟩ 0 0 rfl rfl dX7_read_54 w (fun x1 h2 w => ?_)
  refine r_if_eq C dX7_read_57 (tgt := 74) rfl (fun hc => ?_) (fun hc => ?_)
  · have w := w.1 hc
    refine r_iconst (v := 0) C dX7_read_74 rfl ?_
    exact r_zret C D rfl (Or.inl rfl) (Nat.zero_le _) (Nat.zero_le _) dX7_read_75 w
  · have w := w.2 hc
    refine r_aload_n C dX7_read_60 rfl 0 rfl ?_
    refine r_getP C fcX7 (f := 0) (by decide) rfl k132 dX7_read_61 (w.mono fun x3 w => ?_)
    refine r_cvI (rm' := rmX6_isEmpty) C mX6_isEmpty vX6_isEmpty k757 [] [] rfl rfl (Nat.le_of_ble_eq_true rfl) (by decide) ⟨Nat.zero_le _, Nat.zero_le _⟩ 0 0 rfl rfl dX7_read_64 w (fun x4 h5 w => ?_)
    refine r_if_ne C dX7_read_67 (tgt := 74) rfl (fun hc => ?_) (fun hc => ?_)
    · have w := w.1 hc
      refine r_iconst (v := 0) C dX7_read_74 rfl ?_
      exact r_zret C D rfl (Or.inl rfl) (Nat.zero_le _) (Nat.zero_le _) dX7_read_75 w
    · have w := w.2 hc
      refine r_iconst (v := 1) C dX7_read_70 rfl ?_
      refine r_goto C dX7_read_71 (tgt := 75) rfl ?_
      exact r_zret C D rfl (Or.inr rfl) (Nat.zero_le _) (Nat.zero_le _) dX7_read_75 w
def PX7_read_14 (E : EV) (post : Option AV → AH → Prop) (J14 : AH → Option Nat → Option Nat → Int32 → Prop) (h : AH) (l0 : Option Nat) (l1 : Option Nat) (l2 : Int32) : Prop :=
  ((3 : Int32) ≤ l2 → PX7_read_53 E post h l0 l1) ∧ (¬ (3 : Int32) ≤ l2 → CV (sX9_isAtEnd E) l1 9 [] h (kI fun x1 h2 => (¬ x1 = 0 → PX7_read_53 E post h2 l0 l1) ∧ (x1 = 0 → CV (sX7_readPiece E) l0 7 [aP l1] h2 (kI fun x3 h4 => (¬ x3 = 0 → rdP h4 l0 7 0 fun x5 => rdP h4 l0 7 1 fun x6 => CV (sX6_addPiece E) x5 6 [aP x6] h4 (kV fun h8 => J14 h8 l0 l1 (l2 + (1 : Int32)))) ∧ (x3 = 0 → post (some (aI (0 : Int32))) h4)))))
theorem bX7_read_14 {E : EV} {X : AX} {post : Option AV → AH → Prop} (C : Cb E X cX7_read RX7 3 rmX7_read) (D : Cr E X (some .boolean) rmX7_read "read" post) {J14 : AH → Option Nat → Option Nat → Int32 → Prop} (g14 : ∀ (h : AH) (l0 : Option Nat) (l1 : Option Nat) (l2 : Int32), J14 h l0 l1 l2 → Go E X 3 0 0 14 [(0, aP l0), (1, aP l1), (2, aI l2)] [] h) {h : AH} {l0 : Option Nat} {l1 : Option Nat} {l2 : Int32} (w : PX7_read_14 E post J14 h l0 l1 l2) : Go E X 3 0 0 14 [(0, aP l0), (1, aP l1), (2, aI l2)] [] h := by
  unfold PX7_read_14 at w
  refine r_iload_n C dX7_read_14 rfl 2 rfl ?_
  refine r_iconst (v := 3) C dX7_read_15 rfl ?_
  refine r_icmp_ge C dX7_read_16 (tgt := 53) rfl (fun hc => ?_) (fun hc => ?_)
  · have w := w.1 hc
    exact r_sub [0, 1] rfl (bX7_read_53 C D w)
  · have w := w.2 hc
    refine r_aload_n C dX7_read_19 rfl 1 rfl ?_
    refine r_cvI (rm' := rmX9_isAtEnd) C mX9_isAtEnd vX9_isAtEnd k699 [] [] rfl rfl (Nat.le_of_ble_eq_true rfl) (by decide) ⟨Nat.zero_le _, Nat.zero_le _⟩ 0 0 rfl rfl dX7_read_20 w (fun x1 h2 w => ?_)
    refine r_if_ne C dX7_read_23 (tgt := 53) rfl (fun hc => ?_) (fun hc => ?_)
    · have w := w.1 hc
      exact r_sub [0, 1] rfl (bX7_read_53 C D w)
    · have w := w.2 hc
      refine r_aload_n C dX7_read_26 rfl 0 rfl ?_
      refine r_aload_n C dX7_read_27 rfl 1 rfl ?_
      refine r_cvI (rm' := rmX7_readPiece) C mX7_readPiece vX7_readPiece k711 [aP l1] [] rfl rfl (Nat.le_of_ble_eq_true rfl) (by decide) ⟨Nat.zero_le _, Nat.zero_le _⟩ 0 0 rfl rfl dX7_read_28 w (fun x3 h4 w => ?_)
      refine r_if_ne C dX7_read_31 (tgt := 36) rfl (fun hc => ?_) (fun hc => ?_)
      · have w := w.1 hc
        refine r_aload_n C dX7_read_36 rfl 0 rfl ?_
        refine r_getP C fcX7 (f := 0) (by decide) rfl k132 dX7_read_37 (w.mono fun x5 w => ?_)
        refine r_aload_n C dX7_read_40 rfl 0 rfl ?_
        refine r_getP C fcX7 (f := 1) (by decide) rfl k134 dX7_read_41 (w.mono fun x6 w => ?_)
        refine r_cvV (rm' := rmX6_addPiece) C mX6_addPiece vX6_addPiece k742 [aP x6] [] rfl rfl (Nat.le_of_ble_eq_true rfl) (by decide) ⟨Nat.zero_le _, Nat.zero_le _⟩ 0 0 rfl rfl dX7_read_44 w (fun h8 w => ?_)
        refine r_iinc C dX7_read_47 2 rfl (v := 1) rfl (by decide) rfl ?_
        refine r_goto C dX7_read_50 (tgt := 14) rfl ?_
        exact r_sub [1, 2, 0] rfl (g14 h8 l0 l1 (l2 + (1 : Int32)) w)
      · have w := w.2 hc
        refine r_iconst (v := 0) C dX7_read_34 rfl ?_
        exact r_zret C D rfl (Or.inl rfl) (Nat.zero_le _) (Nat.zero_le _) dX7_read_35 w
theorem lpX7_read_14 {E : EV} {X : AX} {post : Option AV → AH → Prop} (C : Cb E X cX7_read RX7 3 rmX7_read) (D : Cr E X (some .boolean) rmX7_read "read" post) (I : Nat → AH → Option Nat → Option Nat → Int32 → Prop) (step : ∀ (z : Nat) (h : AH) (l0 : Option Nat) (l1 : Option Nat) (l2 : Int32), I z h l0 l1 l2 → PX7_read_14 E post (fun h l0 l1 l2 => ∃ z', z' < z ∧ I z' h l0 l1 l2) h l0 l1 l2) : ∀ (z : Nat) (h : AH) (l0 : Option Nat) (l1 : Option Nat) (l2 : Int32), I z h l0 l1 l2 → Go E X 3 0 0 14 [(0, aP l0), (1, aP l1), (2, aI l2)] [] h := by
  intro z
  induction z using Nat.strongRecOn with
  | _ z ih =>
    intro h l0 l1 l2 hI
    exact bX7_read_14 C D (fun h l0 l1 l2 hJ => by obtain ⟨z', hz, hi⟩ := hJ; exact ih z' hz h l0 l1 l2 hi) (step z h l0 l1 l2 hI)
def PX7_read_0 (E : EV) (post : Option AV → AH → Prop) (J14 : AH → Option Nat → Option Nat → Int32 → Prop) (h : AH) (l0 : Option Nat) (l1 : Option Nat) : Prop :=
  rdP h l0 7 0 fun x1 => CV (sX6_clear E) x1 6 [] h (kV fun h3 => wr h3 l1 9 2 (aI (0 : Int32)) fun h4 => J14 h4 l0 l1 (0 : Int32))
theorem bX7_read_0 {E : EV} {X : AX} {post : Option AV → AH → Prop} (C : Cb E X cX7_read RX7 3 rmX7_read) (D : Cr E X (some .boolean) rmX7_read "read" post) {J14 : AH → Option Nat → Option Nat → Int32 → Prop} (g14 : ∀ (h : AH) (l0 : Option Nat) (l1 : Option Nat) (l2 : Int32), J14 h l0 l1 l2 → Go E X 3 0 0 14 [(0, aP l0), (1, aP l1), (2, aI l2)] [] h) {h : AH} {l0 : Option Nat} {l1 : Option Nat} (w : PX7_read_0 E post J14 h l0 l1) : Go E X 3 0 0 0 [(0, aP l0), (1, aP l1)] [] h := by
  unfold PX7_read_0 at w
  refine r_aload_n C dX7_read_0 rfl 0 rfl ?_
  refine r_getP C fcX7 (f := 0) (by decide) rfl k132 dX7_read_1 (w.mono fun x1 w => ?_)
  refine r_cvV (rm' := rmX6_clear) C mX6_clear vX6_clear k695 [] [] rfl rfl (Nat.le_of_ble_eq_true rfl) (by decide) ⟨Nat.zero_le _, Nat.zero_le _⟩ 0 0 rfl rfl dX7_read_4 w (fun h3 w => ?_)
  refine r_aload_n C dX7_read_7 rfl 1 rfl ?_
  refine r_iconst (v := 0) C dX7_read_8 rfl ?_
  refine r_put C fcX9 (f := 2) (by decide) rfl rfl rfl rfl k77 dX7_read_9 (w.mono fun h4 w => ?_)
  refine r_iconst (v := 0) C dX7_read_12 rfl ?_
  refine r_istore_n C dX7_read_13 rfl (by decide) rfl ?_
  exact r_sub [1, 2, 0] rfl (g14 h4 l0 l1 (0 : Int32) w)
theorem eX7_read {E : EV} {post : Option AV → AH → Prop} {h : AH} {l0 : Option Nat} {l1 : Option Nat} {J14 : AH → Option Nat → Option Nat → Int32 → Prop} (g14 : ∀ X : AX, Cb E X cX7_read RX7 3 rmX7_read → Cr E X (some .boolean) rmX7_read "read" post → ∀ (h : AH) (l0 : Option Nat) (l1 : Option Nat) (l2 : Int32), J14 h l0 l1 l2 → Go E X 3 0 0 14 [(0, aP l0), (1, aP l1), (2, aI l2)] [] h) (w : PX7_read_0 E post J14 h l0 l1) : sX7_read E [aP l0, aP l1] h post := Spec.of RX7 rfl rfl (Nat.le_of_ble_eq_true rfl) fun X C D => bX7_read_0 C D (g14 X C D) w
theorem dX8_add_0 : decode cX8_add 0 = .ok (.aload_n 0, 1) := by decide +kernel
theorem dX8_add_1 : decode cX8_add 1 = .ok (.getfield 42, 3) := by decide +kernel
theorem dX8_add_4 : decode cX8_add 4 = .ok (.aload_n 0, 1) := by decide +kernel
theorem dX8_add_5 : decode cX8_add 5 = .ok (.getfield 17, 3) := by decide +kernel
theorem dX8_add_8 : decode cX8_add 8 = .ok (.arraylength, 1) := by decide +kernel
theorem dX8_add_9 : decode cX8_add 9 = .ok (.if_icmp .ge 24, 3) := by decide +kernel
theorem dX8_add_12 : decode cX8_add 12 = .ok (.aload_n 0, 1) := by decide +kernel
theorem dX8_add_13 : decode cX8_add 13 = .ok (.aload_n 0, 1) := by decide +kernel
theorem dX8_add_14 : decode cX8_add 14 = .ok (.getfield 42, 3) := by decide +kernel
theorem dX8_add_17 : decode cX8_add 17 = .ok (.aload_n 1, 1) := by decide +kernel
theorem dX8_add_18 : decode cX8_add 18 = .ok (.iload_n 2, 1) := by decide +kernel
theorem dX8_add_19 : decode cX8_add 19 = .ok (.iload_n 3, 1) := by decide +kernel
theorem dX8_add_20 : decode cX8_add 20 = .ok (.invokevirtual 55, 3) := by decide +kernel
theorem dX8_add_23 : decode cX8_add 23 = .ok (.aload_n 0, 1) := by decide +kernel
theorem dX8_add_24 : decode cX8_add 24 = .ok (.dup, 1) := by decide +kernel
theorem dX8_add_25 : decode cX8_add 25 = .ok (.getfield 42, 3) := by decide +kernel
theorem dX8_add_28 : decode cX8_add 28 = .ok (.iconst 1, 1) := by decide +kernel
theorem dX8_add_29 : decode cX8_add 29 = .ok (.iadd, 1) := by decide +kernel
theorem dX8_add_30 : decode cX8_add 30 = .ok (.putfield 42, 3) := by decide +kernel
theorem dX8_add_33 : decode cX8_add 33 = .ok (.return_, 1) := by decide +kernel
abbrev rmX8_add : Room := { frames := 2, cells := 0, slots := 0, locals := 80 }
abbrev sX8_add (E : EV) : List AV → AH → (Option AV → AH → Prop) → Prop := Spec E yX8_add cX8_add 4 none rmX8_add
theorem mX8_add : Mt yX8_add cX8_add 4 none 3 := ⟨k826, k10, by decide +kernel⟩
theorem vX8_add : MtV yX8_add 8 := ⟨k824, k825, by decide, (RX8, TX8, 9), rfl, rfl⟩
def PX8_add_0 (E : EV) (post : Option AV → AH → Prop) (h : AH) (l0 : Option Nat) (l1 : Option Nat) (l2 : Int32) (l3 : Int32) : Prop :=
  rdI h l0 8 5 fun x1 => rdP h l0 8 2 fun x2 => alenP h x2 13 fun x3 => (x3 ≤ x1 → post none h) ∧ (¬ x3 ≤ x1 → rdI h l0 8 5 fun x4 => CV (sX8_setItem E) l0 8 [aI x4, aP l1, aI l2, aI l3] h (kV fun h6 => rdI h6 l0 8 5 fun x7 => wr h6 l0 8 5 (aI (x7 + (1 : Int32))) fun h8 => post none h8))
theorem bX8_add_0 {E : EV} {X : AX} {post : Option AV → AH → Prop} (C : Cb E X cX8_add RX8 4 rmX8_add) (D : Cr E X none rmX8_add "add" post) {h : AH} {l0 : Option Nat} {l1 : Option Nat} {l2 : Int32} {l3 : Int32} (w : PX8_add_0 E post h l0 l1 l2 l3) : Go E X 4 0 0 0 [(0, aP l0), (1, aP l1), (2, aI l2), (3, aI l3)] [] h := by
  unfold PX8_add_0 at w
  refine r_aload_n C dX8_add_0 rfl 0 rfl ?_
  refine r_getI C fcX8 (f := 5) (by decide) rfl k256 dX8_add_1 (w.mono fun x1 w => ?_)
  refine r_aload_n C dX8_add_4 rfl 0 rfl ?_
  refine r_getP C fcX8 (f := 2) (by decide) rfl k253 dX8_add_5 (w.mono fun x2 w => ?_)
  refine r_alenP 13 (by decide) 3 rfl C dX8_add_8 (w.mono fun x3 w => ?_)
  refine r_icmp_ge C dX8_add_9 (tgt := 33) rfl (fun hc => ?_) (fun hc => ?_)
  · have w := w.1 hc
    exact r_vret C D rfl (Nat.zero_le _) (Nat.zero_le _) dX8_add_33 w
  · have w := w.2 hc
    refine r_aload_n C dX8_add_12 rfl 0 rfl ?_
    refine r_aload_n C dX8_add_13 rfl 0 rfl ?_
    refine r_getI C fcX8 (f := 5) (by decide) rfl k256 dX8_add_14 (w.mono fun x4 w => ?_)
    refine r_aload_n C dX8_add_17 rfl 1 rfl ?_
    refine r_iload_n C dX8_add_18 rfl 2 rfl ?_
    refine r_iload_n C dX8_add_19 rfl 3 rfl ?_
    refine r_cvV (rm' := rmX8_setItem) C mX8_setItem vX8_setItem k382 [aI x4, aP l1, aI l2, aI l3] [] rfl rfl (Nat.le_of_ble_eq_true rfl) (by decide) ⟨Nat.zero_le _, Nat.zero_le _⟩ 0 0 rfl rfl dX8_add_20 w (fun h6 w => ?_)
    refine r_aload_n C dX8_add_23 rfl 0 rfl ?_
    refine r_dup C dX8_add_24 rfl ?_
    refine r_getI C fcX8 (f := 5) (by decide) rfl k256 dX8_add_25 (w.mono fun x7 w => ?_)
    refine r_iconst (v := 1) C dX8_add_28 rfl ?_
    refine r_iadd C dX8_add_29 ?_
    refine r_put C fcX8 (f := 5) (by decide) rfl rfl rfl rfl k256 dX8_add_30 (w.mono fun h8 w => ?_)
    exact r_vret C D rfl (Nat.zero_le _) (Nat.zero_le _) dX8_add_33 w
theorem eX8_add {E : EV} {post : Option AV → AH → Prop} {h : AH} {l0 : Option Nat} {l1 : Option Nat} {l2 : Int32} {l3 : Int32} (w : PX8_add_0 E post h l0 l1 l2 l3) : sX8_add E [aP l0, aP l1, aI l2, aI l3] h post := Spec.of RX8 rfl rfl (Nat.le_of_ble_eq_true rfl) fun X C D => bX8_add_0 C D w
theorem dX8_remove_0 : decode cX8_remove 0 = .ok (.iload_n 1, 1) := by decide +kernel
theorem dX8_remove_1 : decode cX8_remove 1 = .ok (.istore_n 2, 1) := by decide +kernel
theorem dX8_remove_2 : decode cX8_remove 2 = .ok (.iload_n 2, 1) := by decide +kernel
theorem dX8_remove_3 : decode cX8_remove 3 = .ok (.aload_n 0, 1) := by decide +kernel
theorem dX8_remove_4 : decode cX8_remove 4 = .ok (.getfield 42, 3) := by decide +kernel
theorem dX8_remove_7 : decode cX8_remove 7 = .ok (.iconst 1, 1) := by decide +kernel
theorem dX8_remove_8 : decode cX8_remove 8 = .ok (.isub, 1) := by decide +kernel
theorem dX8_remove_9 : decode cX8_remove 9 = .ok (.if_icmp .ge 35, 3) := by decide +kernel
theorem dX8_remove_12 : decode cX8_remove 12 = .ok (.aload_n 0, 1) := by decide +kernel
theorem dX8_remove_13 : decode cX8_remove 13 = .ok (.iload_n 2, 1) := by decide +kernel
theorem dX8_remove_14 : decode cX8_remove 14 = .ok (.aload_n 0, 1) := by decide +kernel
theorem dX8_remove_15 : decode cX8_remove 15 = .ok (.iload_n 2, 1) := by decide +kernel
theorem dX8_remove_16 : decode cX8_remove 16 = .ok (.iconst 1, 1) := by decide +kernel
theorem dX8_remove_17 : decode cX8_remove 17 = .ok (.iadd, 1) := by decide +kernel
theorem dX8_remove_18 : decode cX8_remove 18 = .ok (.invokevirtual 45, 3) := by decide +kernel
theorem dX8_remove_21 : decode cX8_remove 21 = .ok (.aload_n 0, 1) := by decide +kernel
theorem dX8_remove_22 : decode cX8_remove 22 = .ok (.iload_n 2, 1) := by decide +kernel
theorem dX8_remove_23 : decode cX8_remove 23 = .ok (.iconst 1, 1) := by decide +kernel
theorem dX8_remove_24 : decode cX8_remove 24 = .ok (.iadd, 1) := by decide +kernel
theorem dX8_remove_25 : decode cX8_remove 25 = .ok (.invokevirtual 48, 3) := by decide +kernel
theorem dX8_remove_28 : decode cX8_remove 28 = .ok (.aload_n 0, 1) := by decide +kernel
theorem dX8_remove_29 : decode cX8_remove 29 = .ok (.iload_n 2, 1) := by decide +kernel
theorem dX8_remove_30 : decode cX8_remove 30 = .ok (.iconst 1, 1) := by decide +kernel
theorem dX8_remove_31 : decode cX8_remove 31 = .ok (.iadd, 1) := by decide +kernel
theorem dX8_remove_32 : decode cX8_remove 32 = .ok (.invokevirtual 52, 3) := by decide +kernel
theorem dX8_remove_35 : decode cX8_remove 35 = .ok (.invokevirtual 55, 3) := by decide +kernel
theorem dX8_remove_38 : decode cX8_remove 38 = .ok (.iinc 2 1, 3) := by decide +kernel
theorem dX8_remove_41 : decode cX8_remove 41 = .ok (.goto (-39), 3) := by decide +kernel
theorem dX8_remove_44 : decode cX8_remove 44 = .ok (.aload_n 0, 1) := by decide +kernel
theorem dX8_remove_45 : decode cX8_remove 45 = .ok (.dup, 1) := by decide +kernel
theorem dX8_remove_46 : decode cX8_remove 46 = .ok (.getfield 42, 3) := by decide +kernel
theorem dX8_remove_49 : decode cX8_remove 49 = .ok (.iconst 1, 1) := by decide +kernel
theorem dX8_remove_50 : decode cX8_remove 50 = .ok (.isub, 1) := by decide +kernel
theorem dX8_remove_51 : decode cX8_remove 51 = .ok (.putfield 42, 3) := by decide +kernel
theorem dX8_remove_54 : decode cX8_remove 54 = .ok (.return_, 1) := by decide +kernel
abbrev rmX8_remove : Room := { frames := 2, cells := 0, slots := 0, locals := 80 }
abbrev sX8_remove (E : EV) : List AV → AH → (Option AV → AH → Prop) → Prop := Spec E yX8_remove cX8_remove 3 none rmX8_remove
theorem mX8_remove : Mt yX8_remove cX8_remove 3 none 1 := ⟨k853, k10, by decide +kernel⟩
theorem vX8_remove : MtV yX8_remove 8 := ⟨k851, k852, by decide, (RX8, TX8, 9), rfl, rfl⟩
def PX8_remove_2 (E : EV) (post : Option AV → AH → Prop) (J2 : AH → Option Nat → Int32 → Prop) (h : AH) (l0 : Option Nat) (l2 : Int32) : Prop :=
  rdI h l0 8 5 fun x1 => ((x1 - (1 : Int32)) ≤ l2 → rdI h l0 8 5 fun x2 => wr h l0 8 5 (aI (x2 - (1 : Int32))) fun h3 => post none h3) ∧ (¬ (x1 - (1 : Int32)) ≤ l2 → CV (sX8_shape E) l0 8 [aI (l2 + (1 : Int32))] h (kP fun x2 h3 => CV (sX8_x E) l0 8 [aI (l2 + (1 : Int32))] h3 (kI fun x4 h5 => CV (sX8_y E) l0 8 [aI (l2 + (1 : Int32))] h5 (kI fun x6 h7 => CV (sX8_setItem E) l0 8 [aI l2, aP x2, aI x4, aI x6] h7 (kV fun h9 => J2 h9 l0 (l2 + (1 : Int32)))))))
theorem bX8_remove_2 {E : EV} {X : AX} {post : Option AV → AH → Prop} (C : Cb E X cX8_remove RX8 3 rmX8_remove) (D : Cr E X none rmX8_remove "remove" post) {J2 : AH → Option Nat → Int32 → Prop} (g2 : ∀ (h : AH) (l0 : Option Nat) (l2 : Int32), J2 h l0 l2 → Go E X 3 0 0 2 [(0, aP l0), (2, aI l2)] [] h) {h : AH} {l0 : Option Nat} {l2 : Int32} (w : PX8_remove_2 E post J2 h l0 l2) : Go E X 3 0 0 2 [(0, aP l0), (2, aI l2)] [] h := by
  unfold PX8_remove_2 at w
  refine r_iload_n C dX8_remove_2 rfl 1 rfl ?_
  refine r_aload_n C dX8_remove_3 rfl 0 rfl ?_
  refine r_getI C fcX8 (f := 5) (by decide) rfl k256 dX8_remove_4 (w.mono fun x1 w => ?_)
  refine r_iconst (v := 1) C dX8_remove_7 rfl ?_
  refine r_isub C dX8_remove_8 ?_
  refine r_icmp_ge C dX8_remove_9 (tgt := 44) rfl (fun hc => ?_) (fun hc => ?_)
  · have w := w.1 hc
    refine r_aload_n C dX8_remove_44 rfl 0 rfl ?_
    refine r_dup C dX8_remove_45 rfl ?_
    refine r_getI C fcX8 (f := 5) (by decide) rfl k256 dX8_remove_46 (w.mono fun x2 w => ?_)
    refine r_iconst (v := 1) C dX8_remove_49 rfl ?_
    refine r_isub C dX8_remove_50 ?_
    refine r_put C fcX8 (f := 5) (by decide) rfl rfl rfl rfl k256 dX8_remove_51 (w.mono fun h3 w => ?_)
    exact r_vret C D rfl (Nat.zero_le _) (Nat.zero_le _) dX8_remove_54 w
  · have w := w.2 hc
    refine r_aload_n C dX8_remove_12 rfl 0 rfl ?_
    refine r_iload_n C dX8_remove_13 rfl 1 rfl ?_
    refine r_aload_n C dX8_remove_14 rfl 0 rfl ?_
    refine r_iload_n C dX8_remove_15 rfl 1 rfl ?_
    refine r_iconst (v := 1) C dX8_remove_16 rfl ?_
    refine r_iadd C dX8_remove_17 ?_
    refine r_cvP (rm' := rmX8_shape) C mX8_shape vX8_shape k370 [aI (l2 + (1 : Int32))] [aI l2, aP l0] rfl rfl (Nat.le_of_ble_eq_true rfl) (by decide) ⟨Nat.zero_le _, Nat.zero_le _⟩ 0 0 rfl rfl dX8_remove_18 w (fun x2 h3 w => ?_)
    refine r_aload_n C dX8_remove_21 rfl 0 rfl ?_
    refine r_iload_n C dX8_remove_22 rfl 1 rfl ?_
    refine r_iconst (v := 1) C dX8_remove_23 rfl ?_
    refine r_iadd C dX8_remove_24 ?_
    refine r_cvI (rm' := rmX8_x) C mX8_x vX8_x k374 [aI (l2 + (1 : Int32))] [aP x2, aI l2, aP l0] rfl rfl (Nat.le_of_ble_eq_true rfl) (by decide) ⟨Nat.zero_le _, Nat.zero_le _⟩ 0 0 rfl rfl dX8_remove_25 w (fun x4 h5 w => ?_)
    refine r_aload_n C dX8_remove_28 rfl 0 rfl ?_
    refine r_iload_n C dX8_remove_29 rfl 1 rfl ?_
    refine r_iconst (v := 1) C dX8_remove_30 rfl ?_
    refine r_iadd C dX8_remove_31 ?_
    refine r_cvI (rm' := rmX8_y) C mX8_y vX8_y k378 [aI (l2 + (1 : Int32))] [aI x4, aP x2, aI l2, aP l0] rfl rfl (Nat.le_of_ble_eq_true rfl) (by decide) ⟨Nat.zero_le _, Nat.zero_le _⟩ 0 0 rfl rfl dX8_remove_32 w (fun x6 h7 w => ?_)
    refine r_cvV (rm' := rmX8_setItem) C mX8_setItem vX8_setItem k382 [aI l2, aP x2, aI x4, aI x6] [] rfl rfl (Nat.le_of_ble_eq_true rfl) (by decide) ⟨Nat.zero_le _, Nat.zero_le _⟩ 0 0 rfl rfl dX8_remove_35 w (fun h9 w => ?_)
    refine r_iinc C dX8_remove_38 1 rfl (v := 1) rfl (by decide) rfl ?_
    refine r_goto C dX8_remove_41 (tgt := 2) rfl ?_
    exact r_sub [1, 0] rfl (g2 h9 l0 (l2 + (1 : Int32)) w)
theorem lpX8_remove_2 {E : EV} {X : AX} {post : Option AV → AH → Prop} (C : Cb E X cX8_remove RX8 3 rmX8_remove) (D : Cr E X none rmX8_remove "remove" post) (I : Nat → AH → Option Nat → Int32 → Prop) (step : ∀ (z : Nat) (h : AH) (l0 : Option Nat) (l2 : Int32), I z h l0 l2 → PX8_remove_2 E post (fun h l0 l2 => ∃ z', z' < z ∧ I z' h l0 l2) h l0 l2) : ∀ (z : Nat) (h : AH) (l0 : Option Nat) (l2 : Int32), I z h l0 l2 → Go E X 3 0 0 2 [(0, aP l0), (2, aI l2)] [] h := by
  intro z
  induction z using Nat.strongRecOn with
  | _ z ih =>
    intro h l0 l2 hI
    exact bX8_remove_2 C D (fun h l0 l2 hJ => by obtain ⟨z', hz, hi⟩ := hJ; exact ih z' hz h l0 l2 hi) (step z h l0 l2 hI)
def PX8_remove_0 (E : EV) (post : Option AV → AH → Prop) (J2 : AH → Option Nat → Int32 → Prop) (h : AH) (l0 : Option Nat) (l1 : Int32) : Prop :=
  J2 h l0 l1
theorem bX8_remove_0 {E : EV} {X : AX} {post : Option AV → AH → Prop} (C : Cb E X cX8_remove RX8 3 rmX8_remove) (D : Cr E X none rmX8_remove "remove" post) {J2 : AH → Option Nat → Int32 → Prop} (g2 : ∀ (h : AH) (l0 : Option Nat) (l2 : Int32), J2 h l0 l2 → Go E X 3 0 0 2 [(0, aP l0), (2, aI l2)] [] h) {h : AH} {l0 : Option Nat} {l1 : Int32} (w : PX8_remove_0 E post J2 h l0 l1) : Go E X 3 0 0 0 [(0, aP l0), (1, aI l1)] [] h := by
  unfold PX8_remove_0 at w
  refine r_iload_n C dX8_remove_0 rfl 1 rfl ?_
  refine r_istore_n C dX8_remove_1 rfl (by decide) rfl ?_
  exact r_sub [1, 0] rfl (g2 h l0 l1 w)
theorem eX8_remove {E : EV} {post : Option AV → AH → Prop} {h : AH} {l0 : Option Nat} {l1 : Int32} {J2 : AH → Option Nat → Int32 → Prop} (g2 : ∀ X : AX, Cb E X cX8_remove RX8 3 rmX8_remove → Cr E X none rmX8_remove "remove" post → ∀ (h : AH) (l0 : Option Nat) (l2 : Int32), J2 h l0 l2 → Go E X 3 0 0 2 [(0, aP l0), (2, aI l2)] [] h) (w : PX8_remove_0 E post J2 h l0 l1) : sX8_remove E [aP l0, aI l1] h post := Spec.of RX8 rfl rfl (Nat.le_of_ble_eq_true rfl) fun X C D => bX8_remove_0 C D (g2 X C D) w
theorem dX8_setSlot_0 : decode cX8_setSlot 0 = .ok (.iload_n 1, 1) := by decide +kernel
theorem dX8_setSlot_1 : decode cX8_setSlot 1 = .ok (.ifCond .lt 19, 3) := by decide +kernel
theorem dX8_setSlot_4 : decode cX8_setSlot 4 = .ok (.iload_n 1, 1) := by decide +kernel
theorem dX8_setSlot_5 : decode cX8_setSlot 5 = .ok (.aload_n 0, 1) := by decide +kernel
theorem dX8_setSlot_6 : decode cX8_setSlot 6 = .ok (.getfield 11, 3) := by decide +kernel
theorem dX8_setSlot_9 : decode cX8_setSlot 9 = .ok (.arraylength, 1) := by decide +kernel
theorem dX8_setSlot_10 : decode cX8_setSlot 10 = .ok (.if_icmp .ge 10, 3) := by decide +kernel
theorem dX8_setSlot_13 : decode cX8_setSlot 13 = .ok (.aload_n 0, 1) := by decide +kernel
theorem dX8_setSlot_14 : decode cX8_setSlot 14 = .ok (.getfield 11, 3) := by decide +kernel
theorem dX8_setSlot_17 : decode cX8_setSlot 17 = .ok (.iload_n 1, 1) := by decide +kernel
theorem dX8_setSlot_18 : decode cX8_setSlot 18 = .ok (.aload_n 2, 1) := by decide +kernel
theorem dX8_setSlot_19 : decode cX8_setSlot 19 = .ok (.aastore, 1) := by decide +kernel
theorem dX8_setSlot_20 : decode cX8_setSlot 20 = .ok (.return_, 1) := by decide +kernel
abbrev rmX8_setSlot : Room := { frames := 0, cells := 0, slots := 0, locals := 0 }
abbrev sX8_setSlot (E : EV) : List AV → AH → (Option AV → AH → Prop) → Prop := Spec E yX8_setSlot cX8_setSlot 3 none rmX8_setSlot
theorem mX8_setSlot : Mt yX8_setSlot cX8_setSlot 3 none 2 := ⟨k770, k10, by decide +kernel⟩
theorem vX8_setSlot : MtV yX8_setSlot 8 := ⟨k768, k769, by decide, (RX8, TX8, 9), rfl, rfl⟩
def PX8_setSlot_0 (E : EV) (post : Option AV → AH → Prop) (h : AH) (l0 : Option Nat) (l1 : Int32) (l2 : Option Nat) : Prop :=
  (l1 < 0 → post none h) ∧ (¬ l1 < 0 → rdP h l0 8 1 fun x1 => alenP h x1 13 fun x2 => (x2 ≤ l1 → post none h) ∧ (¬ x2 ≤ l1 → rdP h l0 8 1 fun x3 => astP h x3 13 6 l1 l2 fun h4 => post none h4))
theorem bX8_setSlot_0 {E : EV} {X : AX} {post : Option AV → AH → Prop} (C : Cb E X cX8_setSlot RX8 3 rmX8_setSlot) (D : Cr E X none rmX8_setSlot "setSlot" post) {h : AH} {l0 : Option Nat} {l1 : Int32} {l2 : Option Nat} (w : PX8_setSlot_0 E post h l0 l1 l2) : Go E X 3 0 0 0 [(0, aP l0), (1, aI l1), (2, aP l2)] [] h := by
  unfold PX8_setSlot_0 at w
  refine r_iload_n C dX8_setSlot_0 rfl 1 rfl ?_
  refine r_if_lt C dX8_setSlot_1 (tgt := 20) rfl (fun hc => ?_) (fun hc => ?_)
  · have w := w.1 hc
    exact r_vret C D rfl (Nat.zero_le _) (Nat.zero_le _) dX8_setSlot_20 w
  · have w := w.2 hc
    refine r_iload_n C dX8_setSlot_4 rfl 1 rfl ?_
    refine r_aload_n C dX8_setSlot_5 rfl 0 rfl ?_
    refine r_getP C fcX8 (f := 1) (by decide) rfl k252 dX8_setSlot_6 (w.mono fun x1 w => ?_)
    refine r_alenP 13 (by decide) 3 rfl C dX8_setSlot_9 (w.mono fun x2 w => ?_)
    refine r_icmp_ge C dX8_setSlot_10 (tgt := 20) rfl (fun hc => ?_) (fun hc => ?_)
    · have w := w.1 hc
      exact r_vret C D rfl (Nat.zero_le _) (Nat.zero_le _) dX8_setSlot_20 w
    · have w := w.2 hc
      refine r_aload_n C dX8_setSlot_13 rfl 0 rfl ?_
      refine r_getP C fcX8 (f := 1) (by decide) rfl k252 dX8_setSlot_14 (w.mono fun x3 w => ?_)
      refine r_iload_n C dX8_setSlot_17 rfl 1 rfl ?_
      refine r_aload_n C dX8_setSlot_18 rfl 2 rfl ?_
      refine r_aast 13 6 (by decide) (by decide) 3 (r := (RX6, TX6, 9)) rfl rfl C dX8_setSlot_19 (w.mono fun h4 w => ?_)
      exact r_vret C D rfl (Nat.zero_le _) (Nat.zero_le _) dX8_setSlot_20 w
theorem eX8_setSlot {E : EV} {post : Option AV → AH → Prop} {h : AH} {l0 : Option Nat} {l1 : Int32} {l2 : Option Nat} (w : PX8_setSlot_0 E post h l0 l1 l2) : sX8_setSlot E [aP l0, aI l1, aP l2] h post := Spec.of RX8 rfl rfl (Nat.le_of_ble_eq_true rfl) fun X C D => bX8_setSlot_0 C D w
theorem dX9_append_0 : decode cX9_append 0 = .ok (.aload_n 0, 1) := by decide +kernel
theorem dX9_append_1 : decode cX9_append 1 = .ok (.getfield 15, 3) := by decide +kernel
theorem dX9_append_4 : decode cX9_append 4 = .ok (.ifCond .lt 35, 3) := by decide +kernel
theorem dX9_append_7 : decode cX9_append 7 = .ok (.aload_n 0, 1) := by decide +kernel
theorem dX9_append_8 : decode cX9_append 8 = .ok (.getfield 15, 3) := by decide +kernel
theorem dX9_append_11 : decode cX9_append 11 = .ok (.aload_n 0, 1) := by decide +kernel
theorem dX9_append_12 : decode cX9_append 12 = .ok (.getfield 9, 3) := by decide +kernel
theorem dX9_append_15 : decode cX9_append 15 = .ok (.arraylength, 1) := by decide +kernel
theorem dX9_append_16 : decode cX9_append 16 = .ok (.if_icmp .ge 23, 3) := by decide +kernel
theorem dX9_append_19 : decode cX9_append 19 = .ok (.aload_n 0, 1) := by decide +kernel
theorem dX9_append_20 : decode cX9_append 20 = .ok (.getfield 9, 3) := by decide +kernel
theorem dX9_append_23 : decode cX9_append 23 = .ok (.aload_n 0, 1) := by decide +kernel
theorem dX9_append_24 : decode cX9_append 24 = .ok (.getfield 15, 3) := by decide +kernel
theorem dX9_append_27 : decode cX9_append 27 = .ok (.iload_n 1, 1) := by decide +kernel
theorem dX9_append_28 : decode cX9_append 28 = .ok (.iastore, 1) := by decide +kernel
theorem dX9_append_29 : decode cX9_append 29 = .ok (.aload_n 0, 1) := by decide +kernel
theorem dX9_append_30 : decode cX9_append 30 = .ok (.dup, 1) := by decide +kernel
theorem dX9_append_31 : decode cX9_append 31 = .ok (.getfield 15, 3) := by decide +kernel
theorem dX9_append_34 : decode cX9_append 34 = .ok (.iconst 1, 1) := by decide +kernel
theorem dX9_append_35 : decode cX9_append 35 = .ok (.iadd, 1) := by decide +kernel
theorem dX9_append_36 : decode cX9_append 36 = .ok (.putfield 15, 3) := by decide +kernel
theorem dX9_append_39 : decode cX9_append 39 = .ok (.return_, 1) := by decide +kernel
abbrev rmX9_append : Room := { frames := 0, cells := 0, slots := 0, locals := 0 }
abbrev sX9_append (E : EV) : List AV → AH → (Option AV → AH → Prop) → Prop := Spec E yX9_append cX9_append 2 none rmX9_append
theorem mX9_append : Mt yX9_append cX9_append 2 none 1 := ⟨k686, k3, by decide +kernel⟩
theorem vX9_append : MtV yX9_append 9 := ⟨k684, k685, by decide, (RX9, TX9, 4), rfl, rfl⟩
def PX9_append_0 (E : EV) (post : Option AV → AH → Prop) (h : AH) (l0 : Option Nat) (l1 : Int32) : Prop :=
  rdI h l0 9 1 fun x1 => (x1 < 0 → post none h) ∧ (¬ x1 < 0 → rdI h l0 9 1 fun x2 => rdP h l0 9 0 fun x3 => alenI h x3 0 fun x4 => (x4 ≤ x2 → post none h) ∧ (¬ x4 ≤ x2 → rdP h l0 9 0 fun x5 => rdI h l0 9 1 fun x6 => astI h x5 0 x6 l1 fun h7 => rdI h7 l0 9 1 fun x8 => wr h7 l0 9 1 (aI (x8 + (1 : Int32))) fun h9 => post none h9))
theorem bX9_append_0 {E : EV} {X : AX} {post : Option AV → AH → Prop} (C : Cb E X cX9_append RX9 2 rmX9_append) (D : Cr E X none rmX9_append "append" post) {h : AH} {l0 : Option Nat} {l1 : Int32} (w : PX9_append_0 E post h l0 l1) : Go E X 2 0 0 0 [(0, aP l0), (1, aI l1)] [] h := by
  unfold PX9_append_0 at w
  refine r_aload_n C dX9_append_0 rfl 0 rfl ?_
  refine r_getI C fcX9 (f := 1) (by decide) rfl k74 dX9_append_1 (w.mono fun x1 w => ?_)
  refine r_if_lt C dX9_append_4 (tgt := 39) rfl (fun hc => ?_) (fun hc => ?_)
  · have w := w.1 hc
    exact r_vret C D rfl (Nat.zero_le _) (Nat.zero_le _) dX9_append_39 w
  · have w := w.2 hc
    refine r_aload_n C dX9_append_7 rfl 0 rfl ?_
    refine r_getI C fcX9 (f := 1) (by decide) rfl k74 dX9_append_8 (w.mono fun x2 w => ?_)
    refine r_aload_n C dX9_append_11 rfl 0 rfl ?_
    refine r_getP C fcX9 (f := 0) (by decide) rfl k73 dX9_append_12 (w.mono fun x3 w => ?_)
    refine r_alenI 0 0 rfl C dX9_append_15 (w.mono fun x4 w => ?_)
    refine r_icmp_ge C dX9_append_16 (tgt := 39) rfl (fun hc => ?_) (fun hc => ?_)
    · have w := w.1 hc
      exact r_vret C D rfl (Nat.zero_le _) (Nat.zero_le _) dX9_append_39 w
    · have w := w.2 hc
      refine r_aload_n C dX9_append_19 rfl 0 rfl ?_
      refine r_getP C fcX9 (f := 0) (by decide) rfl k73 dX9_append_20 (w.mono fun x5 w => ?_)
      refine r_aload_n C dX9_append_23 rfl 0 rfl ?_
      refine r_getI C fcX9 (f := 1) (by decide) rfl k74 dX9_append_24 (w.mono fun x6 w => ?_)
      refine r_iload_n C dX9_append_27 rfl 1 rfl ?_
      refine r_iast C dX9_append_28 (w.mono fun h7 w => ?_)
      refine r_aload_n C dX9_append_29 rfl 0 rfl ?_
      refine r_dup C dX9_append_30 rfl ?_
      refine r_getI C fcX9 (f := 1) (by decide) rfl k74 dX9_append_31 (w.mono fun x8 w => ?_)
      refine r_iconst (v := 1) C dX9_append_34 rfl ?_
      refine r_iadd C dX9_append_35 ?_
      refine r_put C fcX9 (f := 1) (by decide) rfl rfl rfl rfl k74 dX9_append_36 (w.mono fun h9 w => ?_)
      exact r_vret C D rfl (Nat.zero_le _) (Nat.zero_le _) dX9_append_39 w
theorem eX9_append {E : EV} {post : Option AV → AH → Prop} {h : AH} {l0 : Option Nat} {l1 : Int32} (w : PX9_append_0 E post h l0 l1) : sX9_append E [aP l0, aI l1] h post := Spec.of RX9 rfl rfl (Nat.le_of_ble_eq_true rfl) fun X C D => bX9_append_0 C D w
theorem dX9_init_0 : decode cX9_init 0 = .ok (.aload_n 0, 1) := by decide +kernel
theorem dX9_init_1 : decode cX9_init 1 = .ok (.invokespecial 3, 3) := by decide +kernel
theorem dX9_init_4 : decode cX9_init 4 = .ok (.aload_n 0, 1) := by decide +kernel
theorem dX9_init_5 : decode cX9_init 5 = .ok (.sipush 150, 3) := by decide +kernel
theorem dX9_init_8 : decode cX9_init 8 = .ok (.newarray .int, 2) := by decide +kernel
theorem dX9_init_10 : decode cX9_init 10 = .ok (.putfield 9, 3) := by decide +kernel
theorem dX9_init_13 : decode cX9_init 13 = .ok (.return_, 1) := by decide +kernel
abbrev rmX9_init : Room := { frames := 1, cells := 1, slots := 150, locals := 40 }
abbrev sX9_init (E : EV) : List AV → AH → (Option AV → AH → Prop) → Prop := Spec E yX9_init cX9_init 1 none rmX9_init
theorem mX9_init : Mt yX9_init cX9_init 1 none 0 := ⟨k71, k3, by decide +kernel⟩
theorem vX9_init : MtI yX9_init := ⟨rfl, k70⟩
def PX9_init_0 (E : EV) (post : Option AV → AH → Prop) (k n : Nat) (h : AH) (l0 : Nat) : Prop :=
  (k + 1 ≤ 1 ∧ n + 150 ≤ 150) ∧ (∀ h1, h1 = h ++ [.inl (0, List.replicate 150 0)] → wr h1 (some l0) 9 0 (aP (some h.length)) fun h2 => ((k + 1) ≤ 1 ∧ (n + 150) ≤ 150) ∧ post none h2)
theorem bX9_init_0 {E : EV} {X : AX} {post : Option AV → AH → Prop} (C : Cb E X cX9_init RX9 1 rmX9_init) (D : Cr E X none rmX9_init "<init>" post) {k n : Nat} {h : AH} {l0 : Nat} (w : PX9_init_0 E post k n h l0) : Go E X 1 k n 0 [(0, aP (some l0))] [] h := by
  unfold PX9_init_0 at w
  refine r_aload_n C dX9_init_0 rfl 0 rfl ?_
  refine r_objInit C k72 k19 k20 (by decide) (by decide) (Nat.le_of_ble_eq_true rfl) dX9_init_1 ?_
  refine r_aload_n C dX9_init_4 rfl 0 rfl ?_
  refine r_sipush (v := 150) C dX9_init_5 rfl ?_
  refine r_newaI 0 .int rfl 0 rfl ra_int rfl (N' := 150) C k66 (by decide) rfl (by decide) w.1.1 w.1.2 dX9_init_8 ?_
  have w := w.2 _ rfl
  generalize h ++ [.inl (0, List.replicate 150 0)] = h1 at w ⊢
  refine r_putF C D fcX9 (f := 0) (by decide) rfl rfl rfl rfl (ft_A _ _) k73 dX9_init_10 (w.mono fun h2 w => ?_)
  exact r_vret C D rfl w.1.1 w.1.2 dX9_init_13 w.2
theorem eX9_init {E : EV} {post : Option AV → AH → Prop} {h : AH} {l0 : Nat} (w : PX9_init_0 E post 0 0 h l0) : sX9_init E [aP (some l0)] h post := Spec.of RX9 rfl rfl (Nat.le_of_ble_eq_true rfl) fun X C D => bX9_init_0 C D w
theorem dX10_addItem_0 : decode cX10_addItem 0 = .ok (.aload_n 0, 1) := by decide +kernel
theorem dX10_addItem_1 : decode cX10_addItem 1 = .ok (.getfield 62, 3) := by decide +kernel
theorem dX10_addItem_4 : decode cX10_addItem 4 = .ok (.aload_n 0, 1) := by decide +kernel
theorem dX10_addItem_5 : decode cX10_addItem 5 = .ok (.getfield 52, 3) := by decide +kernel
theorem dX10_addItem_8 : decode cX10_addItem 8 = .ok (.invokevirtual 125, 3) := by decide +kernel
theorem dX10_addItem_11 : decode cX10_addItem 11 = .ok (.aload_n 0, 1) := by decide +kernel
theorem dX10_addItem_12 : decode cX10_addItem 12 = .ok (.getfield 52, 3) := by decide +kernel
theorem dX10_addItem_15 : decode cX10_addItem 15 = .ok (.aload_n 1, 1) := by decide +kernel
theorem dX10_addItem_16 : decode cX10_addItem 16 = .ok (.iload_n 2, 1) := by decide +kernel
theorem dX10_addItem_17 : decode cX10_addItem 17 = .ok (.iload_n 3, 1) := by decide +kernel
theorem dX10_addItem_18 : decode cX10_addItem 18 = .ok (.invokevirtual 254, 3) := by decide +kernel
theorem dX10_addItem_21 : decode cX10_addItem 21 = .ok (.aload_n 0, 1) := by decide +kernel
theorem dX10_addItem_22 : decode cX10_addItem 22 = .ok (.getfield 52, 3) := by decide +kernel
theorem dX10_addItem_25 : decode cX10_addItem 25 = .ok (.getfield 218, 3) := by decide +kernel
theorem dX10_addItem_28 : decode cX10_addItem 28 = .ok (.iconst 1, 1) := by decide +kernel
theorem dX10_addItem_29 : decode cX10_addItem 29 = .ok (.isub, 1) := by decide +kernel
theorem dX10_addItem_30 : decode cX10_addItem 30 = .ok (.ireturn, 1) := by decide +kernel
abbrev rmX10_addItem : Room := { frames := 4, cells := 0, slots := 0, locals := 160 }
abbrev sX10_addItem (E : EV) : List AV → AH → (Option AV → AH → Prop) → Prop := Spec E yX10_addItem cX10_addItem 4 (some .int) rmX10_addItem
theorem mX10_addItem : Mt yX10_addItem cX10_addItem 4 (some .int) 3 := ⟨k822, k1, by decide +kernel⟩
theorem vX10_addItem : MtV yX10_addItem 10 := ⟨k821, kp21, by decide, (RX10, TX10, 12), rfl, rfl⟩
def PX10_addItem_0 (E : EV) (post : Option AV → AH → Prop) (h : AH) (l0 : Option Nat) (l1 : Option Nat) (l2 : Int32) (l3 : Int32) : Prop :=
  rdP h l0 10 7 fun x1 => rdP h l0 10 5 fun x2 => CV (sX1_save E) x1 1 [aP x2] h (kV fun h4 => rdP h4 l0 10 5 fun x5 => CV (sX8_add E) x5 8 [aP l1, aI l2, aI l3] h4 (kV fun h7 => rdP h7 l0 10 5 fun x8 => rdI h7 x8 8 5 fun x9 => post (some (aI (x9 - (1 : Int32)))) h7))
theorem bX10_addItem_0 {E : EV} {X : AX} {post : Option AV → AH → Prop} (C : Cb E X cX10_addItem RX10 4 rmX10_addItem) (D : Cr E X (some .int) rmX10_addItem "addItem" post) {h : AH} {l0 : Option Nat} {l1 : Option Nat} {l2 : Int32} {l3 : Int32} (w : PX10_addItem_0 E post h l0 l1 l2 l3) : Go E X 4 0 0 0 [(0, aP l0), (1, aP l1), (2, aI l2), (3, aI l3)] [] h := by
  unfold PX10_addItem_0 at w
  refine r_aload_n C dX10_addItem_0 rfl 0 rfl ?_
  refine r_getP C fcX10 (f := 7) (by decide) rfl k315 dX10_addItem_1 (w.mono fun x1 w => ?_)
  refine r_aload_n C dX10_addItem_4 rfl 0 rfl ?_
  refine r_getP C fcX10 (f := 5) (by decide) rfl k313 dX10_addItem_5 (w.mono fun x2 w => ?_)
  refine r_cvV (rm' := rmX1_save) C mX1_save vX1_save k350 [aP x2] [] rfl rfl (Nat.le_of_ble_eq_true rfl) (by decide) ⟨Nat.zero_le _, Nat.zero_le _⟩ 0 0 rfl rfl dX10_addItem_8 w (fun h4 w => ?_)
  refine r_aload_n C dX10_addItem_11 rfl 0 rfl ?_
  refine r_getP C fcX10 (f := 5) (by decide) rfl k313 dX10_addItem_12 (w.mono fun x5 w => ?_)
  refine r_aload_n C dX10_addItem_15 rfl 1 rfl ?_
  refine r_iload_n C dX10_addItem_16 rfl 2 rfl ?_
  refine r_iload_n C dX10_addItem_17 rfl 3 rfl ?_
  refine r_cvV (rm' := rmX8_add) C mX8_add vX8_add k823 [aP l1, aI l2, aI l3] [] rfl rfl (Nat.le_of_ble_eq_true rfl) (by decide) ⟨Nat.zero_le _, Nat.zero_le _⟩ 0 0 rfl rfl dX10_addItem_18 w (fun h7 w => ?_)
  refine r_aload_n C dX10_addItem_21 rfl 0 rfl ?_
  refine r_getP C fcX10 (f := 5) (by decide) rfl k313 dX10_addItem_22 (w.mono fun x8 w => ?_)
  refine r_getI C fcX8 (f := 5) (by decide) rfl k258 dX10_addItem_25 (w.mono fun x9 w => ?_)
  refine r_iconst (v := 1) C dX10_addItem_28 rfl ?_
  refine r_isub C dX10_addItem_29 ?_
  exact r_iret C D rfl (Nat.zero_le _) (Nat.zero_le _) dX10_addItem_30 w
theorem eX10_addItem {E : EV} {post : Option AV → AH → Prop} {h : AH} {l0 : Option Nat} {l1 : Option Nat} {l2 : Int32} {l3 : Int32} (w : PX10_addItem_0 E post h l0 l1 l2 l3) : sX10_addItem E [aP l0, aP l1, aI l2, aI l3] h post := Spec.of RX10 rfl rfl (Nat.le_of_ble_eq_true rfl) fun X C D => bX10_addItem_0 C D w
theorem dX10_addAtBottomLeft_0 : decode cX10_addAtBottomLeft 0 = .ok (.aload_n 0, 1) := by decide +kernel
theorem dX10_addAtBottomLeft_1 : decode cX10_addAtBottomLeft 1 = .ok (.getfield 43, 3) := by decide +kernel
theorem dX10_addAtBottomLeft_4 : decode cX10_addAtBottomLeft 4 = .ok (.aload_n 0, 1) := by decide +kernel
theorem dX10_addAtBottomLeft_5 : decode cX10_addAtBottomLeft 5 = .ok (.getfield 52, 3) := by decide +kernel
theorem dX10_addAtBottomLeft_8 : decode cX10_addAtBottomLeft 8 = .ok (.aload_n 1, 1) := by decide +kernel
theorem dX10_addAtBottomLeft_9 : decode cX10_addAtBottomLeft 9 = .ok (.iconst (-1), 1) := by decide +kernel
theorem dX10_addAtBottomLeft_10 : decode cX10_addAtBottomLeft 10 = .ok (.invokevirtual 263, 3) := by decide +kernel
theorem dX10_addAtBottomLeft_13 : decode cX10_addAtBottomLeft 13 = .ok (.aload_n 0, 1) := by decide +kernel
theorem dX10_addAtBottomLeft_14 : decode cX10_addAtBottomLeft 14 = .ok (.getfield 43, 3) := by decide +kernel
theorem dX10_addAtBottomLeft_17 : decode cX10_addAtBottomLeft 17 = .ok (.invokevirtual 338, 3) := by decide +kernel
theorem dX10_addAtBottomLeft_20 : decode cX10_addAtBottomLeft 20 = .ok (.ifCond .ne 6, 3) := by decide +kernel
theorem dX10_addAtBottomLeft_23 : decode cX10_addAtBottomLeft 23 = .ok (.ldc 160, 2) := by decide +kernel
theorem dX10_addAtBottomLeft_25 : decode cX10_addAtBottomLeft 25 = .ok (.ireturn, 1) := by decide +kernel
theorem dX10_addAtBottomLeft_26 : decode cX10_addAtBottomLeft 26 = .ok (.aload_n 0, 1) := by decide +kernel
theorem dX10_addAtBottomLeft_27 : decode cX10_addAtBottomLeft 27 = .ok (.aload_n 1, 1) := by decide +kernel
theorem dX10_addAtBottomLeft_28 : decode cX10_addAtBottomLeft 28 = .ok (.aload_n 0, 1) := by decide +kernel
theorem dX10_addAtBottomLeft_29 : decode cX10_addAtBottomLeft 29 = .ok (.getfield 43, 3) := by decide +kernel
theorem dX10_addAtBottomLeft_32 : decode cX10_addAtBottomLeft 32 = .ok (.getfield 341, 3) := by decide +kernel
theorem dX10_addAtBottomLeft_35 : decode cX10_addAtBottomLeft 35 = .ok (.aload_n 0, 1) := by decide +kernel
theorem dX10_addAtBottomLeft_36 : decode cX10_addAtBottomLeft 36 = .ok (.getfield 43, 3) := by decide +kernel
theorem dX10_addAtBottomLeft_39 : decode cX10_addAtBottomLeft 39 = .ok (.getfield 344, 3) := by decide +kernel
theorem dX10_addAtBottomLeft_42 : decode cX10_addAtBottomLeft 42 = .ok (.invokevirtual 231, 3) := by decide +kernel
theorem dX10_addAtBottomLeft_45 : decode cX10_addAtBottomLeft 45 = .ok (.ireturn, 1) := by decide +kernel
abbrev rmX10_addAtBottomLeft : Room := { frames := 5, cells := 0, slots := 0, locals := 200 }
abbrev sX10_addAtBottomLeft (E : EV) : List AV → AH → (Option AV → AH → Prop) → Prop := Spec E yX10_addAtBottomLeft cX10_addAtBottomLeft 2 (some .int) rmX10_addAtBottomLeft
theorem mX10_addAtBottomLeft : Mt yX10_addAtBottomLeft cX10_addAtBottomLeft 2 (some .int) 1 := ⟨k818, k1, by decide +kernel⟩
theorem vX10_addAtBottomLeft : MtV yX10_addAtBottomLeft 10 := ⟨k817, kp20, by decide, (RX10, TX10, 12), rfl, rfl⟩
def PX10_addAtBottomLeft_0 (E : EV) (post : Option AV → AH → Prop) (h : AH) (l0 : Option Nat) (l1 : Option Nat) : Prop :=
  rdP h l0 10 4 fun x1 => rdP h l0 10 5 fun x2 => CV (sX4_prepare E) x1 4 [aP x2, aP l1, aI (-1 : Int32)] h (kV fun h4 => rdP h4 l0 10 4 fun x5 => CV (sX4_findBottomLeft E) x5 4 [] h4 (kI fun x6 h7 => (¬ x6 = 0 → rdP h7 l0 10 4 fun x8 => rdI h7 x8 4 8 fun x9 => rdP h7 l0 10 4 fun x10 => rdI h7 x10 4 9 fun x11 => CV (sX10_addItem E) l0 10 [aP l1, aI x9, aI x11] h7 (kI fun x12 h13 => post (some (aI x12)) h13)) ∧ (x6 = 0 → post (some (aI (-1000009 : Int32))) h7)))
theorem bX10_addAtBottomLeft_0 {E : EV} {X : AX} {post : Option AV → AH → Prop} (C : Cb E X cX10_addAtBottomLeft RX10 2 rmX10_addAtBottomLeft) (D : Cr E X (some .int) rmX10_addAtBottomLeft "addAtBottomLeft" post) {h : AH} {l0 : Option Nat} {l1 : Option Nat} (w : PX10_addAtBottomLeft_0 E post h l0 l1) : Go E X 2 0 0 0 [(0, aP l0), (1, aP l1)] [] h := by
  unfold PX10_addAtBottomLeft_0 at w
  refine r_aload_n C dX10_addAtBottomLeft_0 rfl 0 rfl ?_
  refine r_getP C fcX10 (f := 4) (by decide) rfl k312 dX10_addAtBottomLeft_1 (w.mono fun x1 w => ?_)
  refine r_aload_n C dX10_addAtBottomLeft_4 rfl 0 rfl ?_
  refine r_getP C fcX10 (f := 5) (by decide) rfl k313 dX10_addAtBottomLeft_5 (w.mono fun x2 w => ?_)
  refine r_aload_n C dX10_addAtBottomLeft_8 rfl 1 rfl ?_
  refine r_iconst (v := -1) C dX10_addAtBottomLeft_9 rfl ?_
  refine r_cvV (rm' := rmX4_prepare) C mX4_prepare vX4_prepare k637 [aP x2, aP l1, aI (-1 : Int32)] [] rfl rfl (Nat.le_of_ble_eq_true rfl) (by decide) ⟨Nat.zero_le _, Nat.zero_le _⟩ 0 0 rfl rfl dX10_addAtBottomLeft_10 w (fun h4 w => ?_)
  refine r_aload_n C dX10_addAtBottomLeft_13 rfl 0 rfl ?_
  refine r_getP C fcX10 (f := 4) (by decide) rfl k312 dX10_addAtBottomLeft_14 (w.mono fun x5 w => ?_)
  refine r_cvI (rm' := rmX4_findBottomLeft) C mX4_findBottomLeft vX4_findBottomLeft k811 [] [] rfl rfl (Nat.le_of_ble_eq_true rfl) (by decide) ⟨Nat.zero_le _, Nat.zero_le _⟩ 0 0 rfl rfl dX10_addAtBottomLeft_17 w (fun x6 h7 w => ?_)
  refine r_if_ne C dX10_addAtBottomLeft_20 (tgt := 26) rfl (fun hc => ?_) (fun hc => ?_)
  · have w := w.1 hc
    refine r_aload_n C dX10_addAtBottomLeft_26 rfl 0 rfl ?_
    refine r_aload_n C dX10_addAtBottomLeft_27 rfl 1 rfl ?_
    refine r_aload_n C dX10_addAtBottomLeft_28 rfl 0 rfl ?_
    refine r_getP C fcX10 (f := 4) (by decide) rfl k312 dX10_addAtBottomLeft_29 (w.mono fun x8 w => ?_)
    refine r_getI C fcX4 (f := 8) (by decide) rfl k218 dX10_addAtBottomLeft_32 (w.mono fun x9 w => ?_)
    refine r_aload_n C dX10_addAtBottomLeft_35 rfl 0 rfl ?_
    refine r_getP C fcX10 (f := 4) (by decide) rfl k312 dX10_addAtBottomLeft_36 (w.mono fun x10 w => ?_)
    refine r_getI C fcX4 (f := 9) (by decide) rfl k220 dX10_addAtBottomLeft_39 (w.mono fun x11 w => ?_)
    refine r_cvI (rm' := rmX10_addItem) C mX10_addItem vX10_addItem k819 [aP l1, aI x9, aI x11] [] rfl rfl (Nat.le_of_ble_eq_true rfl) (by decide) ⟨Nat.zero_le _, Nat.zero_le _⟩ 0 0 rfl rfl dX10_addAtBottomLeft_42 w (fun x12 h13 w => ?_)
    exact r_iret C D rfl (Nat.zero_le _) (Nat.zero_le _) dX10_addAtBottomLeft_45 w
  · have w := w.2 hc
    refine r_ldc (v := -1000009) C dX10_addAtBottomLeft_23 k537 ?_
    exact r_iret C D rfl (Nat.zero_le _) (Nat.zero_le _) dX10_addAtBottomLeft_25 w
theorem eX10_addAtBottomLeft {E : EV} {post : Option AV → AH → Prop} {h : AH} {l0 : Option Nat} {l1 : Option Nat} (w : PX10_addAtBottomLeft_0 E post h l0 l1) : sX10_addAtBottomLeft E [aP l0, aP l1] h post := Spec.of RX10 rfl rfl (Nat.le_of_ble_eq_true rfl) fun X C D => bX10_addAtBottomLeft_0 C D w
