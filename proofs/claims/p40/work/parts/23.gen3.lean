theorem dX10_removeItem_0 : decode cX10_removeItem 0 = .ok (.aload_n 0, 1) := by decide +kernel
theorem dX10_removeItem_1 : decode cX10_removeItem 1 = .ok (.iload_n 1, 1) := by decide +kernel
theorem dX10_removeItem_2 : decode cX10_removeItem 2 = .ok (.invokevirtual 258, 3) := by decide +kernel
theorem dX10_removeItem_5 : decode cX10_removeItem 5 = .ok (.ifCond .ne 6, 3) := by decide +kernel
theorem dX10_removeItem_8 : decode cX10_removeItem 8 = .ok (.ldc 88, 2) := by decide +kernel
theorem dX10_removeItem_10 : decode cX10_removeItem 10 = .ok (.ireturn, 1) := by decide +kernel
theorem dX10_removeItem_11 : decode cX10_removeItem 11 = .ok (.aload_n 0, 1) := by decide +kernel
theorem dX10_removeItem_12 : decode cX10_removeItem 12 = .ok (.getfield 62, 3) := by decide +kernel
theorem dX10_removeItem_15 : decode cX10_removeItem 15 = .ok (.aload_n 0, 1) := by decide +kernel
theorem dX10_removeItem_16 : decode cX10_removeItem 16 = .ok (.getfield 52, 3) := by decide +kernel
theorem dX10_removeItem_19 : decode cX10_removeItem 19 = .ok (.invokevirtual 125, 3) := by decide +kernel
theorem dX10_removeItem_22 : decode cX10_removeItem 22 = .ok (.aload_n 0, 1) := by decide +kernel
theorem dX10_removeItem_23 : decode cX10_removeItem 23 = .ok (.getfield 52, 3) := by decide +kernel
theorem dX10_removeItem_26 : decode cX10_removeItem 26 = .ok (.iload_n 1, 1) := by decide +kernel
theorem dX10_removeItem_27 : decode cX10_removeItem 27 = .ok (.invokevirtual 271, 3) := by decide +kernel
theorem dX10_removeItem_30 : decode cX10_removeItem 30 = .ok (.aload_n 0, 1) := by decide +kernel
theorem dX10_removeItem_31 : decode cX10_removeItem 31 = .ok (.getfield 52, 3) := by decide +kernel
theorem dX10_removeItem_34 : decode cX10_removeItem 34 = .ok (.getfield 218, 3) := by decide +kernel
theorem dX10_removeItem_37 : decode cX10_removeItem 37 = .ok (.ireturn, 1) := by decide +kernel
abbrev rmX10_removeItem : Room := { frames := 4, cells := 0, slots := 0, locals := 160 }
abbrev sX10_removeItem (E : EV) : List AV → AH → (Option AV → AH → Prop) → Prop := Spec E yX10_removeItem cX10_removeItem 2 (some .int) rmX10_removeItem
theorem mX10_removeItem : Mt yX10_removeItem cX10_removeItem 2 (some .int) 1 := ⟨k849, k1, by decide +kernel⟩
theorem vX10_removeItem : MtV yX10_removeItem 10 := ⟨k847, k848, by decide, (RX10, TX10, 12), rfl, rfl⟩
def PX10_removeItem_0 (E : EV) (post : Option AV → AH → Prop) (h : AH) (l0 : Option Nat) (l1 : Int32) : Prop :=
  CV (sX10_isItem E) l0 10 [aI l1] h (kI fun x1 h2 => (¬ x1 = 0 → rdP h2 l0 10 7 fun x3 => rdP h2 l0 10 5 fun x4 => CV (sX1_save E) x3 1 [aP x4] h2 (kV fun h6 => rdP h6 l0 10 5 fun x7 => CV (sX8_remove E) x7 8 [aI l1] h6 (kV fun h9 => rdP h9 l0 10 5 fun x10 => rdI h9 x10 8 5 fun x11 => post (some (aI x11)) h9))) ∧ (x1 = 0 → post (some (aI (-1000001 : Int32))) h2))
theorem bX10_removeItem_0 {E : EV} {X : AX} {post : Option AV → AH → Prop} (C : Cb E X cX10_removeItem RX10 2 rmX10_removeItem) (D : Cr E X (some .int) rmX10_removeItem "removeItem" post) {h : AH} {l0 : Option Nat} {l1 : Int32} (w : PX10_removeItem_0 E post h l0 l1) : Go E X 2 0 0 0 [(0, aP l0), (1, aI l1)] [] h := by
  unfold PX10_removeItem_0 at w
  refine r_aload_n C dX10_removeItem_0 rfl 0 rfl ?_
  refine r_iload_n C dX10_removeItem_1 rfl 1 rfl ?_
  refine r_cvI (rm' := rmX10_isItem) C mX10_isItem vX10_isItem k398 [aI l1] [] rfl rfl (Nat.le_of_ble_eq_true rfl) (by decide) ⟨Nat.zero_le _, Nat.zero_le _⟩ 0 0 rfl rfl dX10_removeItem_2 w (fun x1 h2 w => ?_)
  refine r_if_ne C dX10_removeItem_5 (tgt := 11) rfl (fun hc => ?_) (fun hc => ?_)
  · have w := w.1 hc
    refine r_aload_n C dX10_removeItem_11 rfl 0 rfl ?_
    refine r_getP C fcX10 (f := 7) (by decide) rfl k315 dX10_removeItem_12 (w.mono fun x3 w => ?_)
    refine r_aload_n C dX10_removeItem_15 rfl 0 rfl ?_
    refine r_getP C fcX10 (f := 5) (by decide) rfl k313 dX10_removeItem_16 (w.mono fun x4 w => ?_)
    refine r_cvV (rm' := rmX1_save) C mX1_save vX1_save k350 [aP x4] [] rfl rfl (Nat.le_of_ble_eq_true rfl) (by decide) ⟨Nat.zero_le _, Nat.zero_le _⟩ 0 0 rfl rfl dX10_removeItem_19 w (fun h6 w => ?_)
    refine r_aload_n C dX10_removeItem_22 rfl 0 rfl ?_
    refine r_getP C fcX10 (f := 5) (by decide) rfl k313 dX10_removeItem_23 (w.mono fun x7 w => ?_)
    refine r_iload_n C dX10_removeItem_26 rfl 1 rfl ?_
    refine r_cvV (rm' := rmX8_remove) C mX8_remove vX8_remove k850 [aI l1] [] rfl rfl (Nat.le_of_ble_eq_true rfl) (by decide) ⟨Nat.zero_le _, Nat.zero_le _⟩ 0 0 rfl rfl dX10_removeItem_27 w (fun h9 w => ?_)
    refine r_aload_n C dX10_removeItem_30 rfl 0 rfl ?_
    refine r_getP C fcX10 (f := 5) (by decide) rfl k313 dX10_removeItem_31 (w.mono fun x10 w => ?_)
    refine r_getI C fcX8 (f := 5) (by decide) rfl k258 dX10_removeItem_34 (w.mono fun x11 w => ?_)
    exact r_iret C D rfl (Nat.zero_le _) (Nat.zero_le _) dX10_removeItem_37 w
  · have w := w.2 hc
    refine r_ldc (v := -1000001) C dX10_removeItem_8 k349 ?_
    exact r_iret C D rfl (Nat.zero_le _) (Nat.zero_le _) dX10_removeItem_10 w
theorem eX10_removeItem {E : EV} {post : Option AV → AH → Prop} {h : AH} {l0 : Option Nat} {l1 : Int32} (w : PX10_removeItem_0 E post h l0 l1) : sX10_removeItem E [aP l0, aI l1] h post := Spec.of RX10 rfl rfl (Nat.le_of_ble_eq_true rfl) fun X C D => bX10_removeItem_0 C D w
theorem dX10_setClearance_0 : decode cX10_setClearance 0 = .ok (.iload_n 1, 1) := by decide +kernel
theorem dX10_setClearance_1 : decode cX10_setClearance 1 = .ok (.ifCond .lt 8, 3) := by decide +kernel
theorem dX10_setClearance_4 : decode cX10_setClearance 4 = .ok (.iload_n 1, 1) := by decide +kernel
theorem dX10_setClearance_5 : decode cX10_setClearance 5 = .ok (.iconst 5, 1) := by decide +kernel
theorem dX10_setClearance_6 : decode cX10_setClearance 6 = .ok (.if_icmp .le 6, 3) := by decide +kernel
theorem dX10_setClearance_9 : decode cX10_setClearance 9 = .ok (.ldc 88, 2) := by decide +kernel
theorem dX10_setClearance_11 : decode cX10_setClearance 11 = .ok (.ireturn, 1) := by decide +kernel
theorem dX10_setClearance_12 : decode cX10_setClearance 12 = .ok (.aload_n 0, 1) := by decide +kernel
theorem dX10_setClearance_13 : decode cX10_setClearance 13 = .ok (.getfield 56, 3) := by decide +kernel
theorem dX10_setClearance_16 : decode cX10_setClearance 16 = .ok (.aload_n 0, 1) := by decide +kernel
theorem dX10_setClearance_17 : decode cX10_setClearance 17 = .ok (.getfield 52, 3) := by decide +kernel
theorem dX10_setClearance_20 : decode cX10_setClearance 20 = .ok (.invokevirtual 209, 3) := by decide +kernel
theorem dX10_setClearance_23 : decode cX10_setClearance 23 = .ok (.aload_n 0, 1) := by decide +kernel
theorem dX10_setClearance_24 : decode cX10_setClearance 24 = .ok (.getfield 52, 3) := by decide +kernel
theorem dX10_setClearance_27 : decode cX10_setClearance 27 = .ok (.iload_n 1, 1) := by decide +kernel
theorem dX10_setClearance_28 : decode cX10_setClearance 28 = .ok (.putfield 212, 3) := by decide +kernel
theorem dX10_setClearance_31 : decode cX10_setClearance 31 = .ok (.aload_n 0, 1) := by decide +kernel
theorem dX10_setClearance_32 : decode cX10_setClearance 32 = .ok (.invokevirtual 215, 3) := by decide +kernel
theorem dX10_setClearance_35 : decode cX10_setClearance 35 = .ok (.ifCond .ne 17, 3) := by decide +kernel
theorem dX10_setClearance_38 : decode cX10_setClearance 38 = .ok (.aload_n 0, 1) := by decide +kernel
theorem dX10_setClearance_39 : decode cX10_setClearance 39 = .ok (.getfield 52, 3) := by decide +kernel
theorem dX10_setClearance_42 : decode cX10_setClearance 42 = .ok (.aload_n 0, 1) := by decide +kernel
theorem dX10_setClearance_43 : decode cX10_setClearance 43 = .ok (.getfield 56, 3) := by decide +kernel
theorem dX10_setClearance_46 : decode cX10_setClearance 46 = .ok (.invokevirtual 209, 3) := by decide +kernel
theorem dX10_setClearance_49 : decode cX10_setClearance 49 = .ok (.ldc 124, 2) := by decide +kernel
theorem dX10_setClearance_51 : decode cX10_setClearance 51 = .ok (.ireturn, 1) := by decide +kernel
theorem dX10_setClearance_52 : decode cX10_setClearance 52 = .ok (.aload_n 0, 1) := by decide +kernel
theorem dX10_setClearance_53 : decode cX10_setClearance 53 = .ok (.getfield 62, 3) := by decide +kernel
theorem dX10_setClearance_56 : decode cX10_setClearance 56 = .ok (.aload_n 0, 1) := by decide +kernel
theorem dX10_setClearance_57 : decode cX10_setClearance 57 = .ok (.getfield 56, 3) := by decide +kernel
theorem dX10_setClearance_60 : decode cX10_setClearance 60 = .ok (.invokevirtual 125, 3) := by decide +kernel
theorem dX10_setClearance_63 : decode cX10_setClearance 63 = .ok (.aload_n 0, 1) := by decide +kernel
theorem dX10_setClearance_64 : decode cX10_setClearance 64 = .ok (.getfield 56, 3) := by decide +kernel
theorem dX10_setClearance_67 : decode cX10_setClearance 67 = .ok (.getfield 212, 3) := by decide +kernel
theorem dX10_setClearance_70 : decode cX10_setClearance 70 = .ok (.ireturn, 1) := by decide +kernel
abbrev rmX10_setClearance : Room := { frames := 6, cells := 0, slots := 0, locals := 240 }
abbrev sX10_setClearance (E : EV) : List AV → AH → (Option AV → AH → Prop) → Prop := Spec E yX10_setClearance cX10_setClearance 2 (some .int) rmX10_setClearance
theorem mX10_setClearance : Mt yX10_setClearance cX10_setClearance 2 (some .int) 1 := ⟨k782, k1, by decide +kernel⟩
theorem vX10_setClearance : MtV yX10_setClearance 10 := ⟨k780, k781, by decide, (RX10, TX10, 12), rfl, rfl⟩
def PX10_setClearance_0 (E : EV) (post : Option AV → AH → Prop) (h : AH) (l0 : Option Nat) (l1 : Int32) : Prop :=
  (l1 < 0 → post (some (aI (-1000001 : Int32))) h) ∧ (¬ l1 < 0 → (l1 ≤ (5 : Int32) → rdP h l0 10 6 fun x1 => rdP h l0 10 5 fun x2 => CV (sX8_copy E) x1 8 [aP x2] h (kV fun h4 => rdP h4 l0 10 5 fun x5 => wr h4 x5 8 8 (aI l1) fun h6 => CV (sX10_allItemsFit E) l0 10 [] h6 (kI fun x7 h8 => (¬ x7 = 0 → rdP h8 l0 10 7 fun x9 => rdP h8 l0 10 6 fun x10 => CV (sX1_save E) x9 1 [aP x10] h8 (kV fun h12 => rdP h12 l0 10 6 fun x13 => rdI h12 x13 8 8 fun x14 => post (some (aI x14)) h12)) ∧ (x7 = 0 → rdP h8 l0 10 5 fun x9 => rdP h8 l0 10 6 fun x10 => CV (sX8_copy E) x9 8 [aP x10] h8 (kV fun h12 => post (some (aI (-1000002 : Int32))) h12))))) ∧ (¬ l1 ≤ (5 : Int32) → post (some (aI (-1000001 : Int32))) h))
theorem bX10_setClearance_0 {E : EV} {X : AX} {post : Option AV → AH → Prop} (C : Cb E X cX10_setClearance RX10 2 rmX10_setClearance) (D : Cr E X (some .int) rmX10_setClearance "setClearance" post) {h : AH} {l0 : Option Nat} {l1 : Int32} (w : PX10_setClearance_0 E post h l0 l1) : Go E X 2 0 0 0 [(0, aP l0), (1, aI l1)] [] h := by
  unfold PX10_setClearance_0 at w
  refine r_iload_n C dX10_setClearance_0 rfl 1 rfl ?_
  refine r_if_lt C dX10_setClearance_1 (tgt := 9) rfl (fun hc => ?_) (fun hc => ?_)
  · have w := w.1 hc
    refine r_ldc (v := -1000001) C dX10_setClearance_9 k349 ?_
    exact r_iret C D rfl (Nat.zero_le _) (Nat.zero_le _) dX10_setClearance_11 w
  · have w := w.2 hc
    refine r_iload_n C dX10_setClearance_4 rfl 1 rfl ?_
    refine r_iconst (v := 5) C dX10_setClearance_5 rfl ?_
    refine r_icmp_le C dX10_setClearance_6 (tgt := 12) rfl (fun hc => ?_) (fun hc => ?_)
    · have w := w.1 hc
      refine r_aload_n C dX10_setClearance_12 rfl 0 rfl ?_
      refine r_getP C fcX10 (f := 6) (by decide) rfl k314 dX10_setClearance_13 (w.mono fun x1 w => ?_)
      refine r_aload_n C dX10_setClearance_16 rfl 0 rfl ?_
      refine r_getP C fcX10 (f := 5) (by decide) rfl k313 dX10_setClearance_17 (w.mono fun x2 w => ?_)
      refine r_cvV (rm' := rmX8_copy) C mX8_copy vX8_copy k783 [aP x2] [] rfl rfl (Nat.le_of_ble_eq_true rfl) (by decide) ⟨Nat.zero_le _, Nat.zero_le _⟩ 0 0 rfl rfl dX10_setClearance_20 w (fun h4 w => ?_)
      refine r_aload_n C dX10_setClearance_23 rfl 0 rfl ?_
      refine r_getP C fcX10 (f := 5) (by decide) rfl k313 dX10_setClearance_24 (w.mono fun x5 w => ?_)
      refine r_iload_n C dX10_setClearance_27 rfl 1 rfl ?_
      refine r_put C fcX8 (f := 8) (by decide) rfl rfl rfl rfl k267 dX10_setClearance_28 (w.mono fun h6 w => ?_)
      refine r_aload_n C dX10_setClearance_31 rfl 0 rfl ?_
      refine r_cvI (rm' := rmX10_allItemsFit) C mX10_allItemsFit vX10_allItemsFit k784 [] [] rfl rfl (Nat.le_of_ble_eq_true rfl) (by decide) ⟨Nat.zero_le _, Nat.zero_le _⟩ 0 0 rfl rfl dX10_setClearance_32 w (fun x7 h8 w => ?_)
      refine r_if_ne C dX10_setClearance_35 (tgt := 52) rfl (fun hc => ?_) (fun hc => ?_)
      · have w := w.1 hc
        refine r_aload_n C dX10_setClearance_52 rfl 0 rfl ?_
        refine r_getP C fcX10 (f := 7) (by decide) rfl k315 dX10_setClearance_53 (w.mono fun x9 w => ?_)
        refine r_aload_n C dX10_setClearance_56 rfl 0 rfl ?_
        refine r_getP C fcX10 (f := 6) (by decide) rfl k314 dX10_setClearance_57 (w.mono fun x10 w => ?_)
        refine r_cvV (rm' := rmX1_save) C mX1_save vX1_save k350 [aP x10] [] rfl rfl (Nat.le_of_ble_eq_true rfl) (by decide) ⟨Nat.zero_le _, Nat.zero_le _⟩ 0 0 rfl rfl dX10_setClearance_60 w (fun h12 w => ?_)
        refine r_aload_n C dX10_setClearance_63 rfl 0 rfl ?_
        refine r_getP C fcX10 (f := 6) (by decide) rfl k314 dX10_setClearance_64 (w.mono fun x13 w => ?_)
        refine r_getI C fcX8 (f := 8) (by decide) rfl k267 dX10_setClearance_67 (w.mono fun x14 w => ?_)
        exact r_iret C D rfl (Nat.zero_le _) (Nat.zero_le _) dX10_setClearance_70 w
      · have w := w.2 hc
        refine r_aload_n C dX10_setClearance_38 rfl 0 rfl ?_
        refine r_getP C fcX10 (f := 5) (by decide) rfl k313 dX10_setClearance_39 (w.mono fun x9 w => ?_)
        refine r_aload_n C dX10_setClearance_42 rfl 0 rfl ?_
        refine r_getP C fcX10 (f := 6) (by decide) rfl k314 dX10_setClearance_43 (w.mono fun x10 w => ?_)
        refine r_cvV (rm' := rmX8_copy) C mX8_copy vX8_copy k783 [aP x10] [] rfl rfl (Nat.le_of_ble_eq_true rfl) (by decide) ⟨Nat.zero_le _, Nat.zero_le _⟩ 0 0 rfl rfl dX10_setClearance_46 w (fun h12 w => ?_)
        refine r_ldc (v := -1000002) C dX10_setClearance_49 k562 ?_
        exact r_iret C D rfl (Nat.zero_le _) (Nat.zero_le _) dX10_setClearance_51 w
    · have w := w.2 hc
      refine r_ldc (v := -1000001) C dX10_setClearance_9 k349 ?_
      exact r_iret C D rfl (Nat.zero_le _) (Nat.zero_le _) dX10_setClearance_11 w
theorem eX10_setClearance {E : EV} {post : Option AV → AH → Prop} {h : AH} {l0 : Option Nat} {l1 : Int32} (w : PX10_setClearance_0 E post h l0 l1) : sX10_setClearance E [aP l0, aI l1] h post := Spec.of RX10 rfl rfl (Nat.le_of_ble_eq_true rfl) fun X C D => bX10_setClearance_0 C D w
theorem dX10_setContainer_0 : decode cX10_setContainer 0 = .ok (.iload_n 1, 1) := by decide +kernel
theorem dX10_setContainer_1 : decode cX10_setContainer 1 = .ok (.iconst 1, 1) := by decide +kernel
theorem dX10_setContainer_2 : decode cX10_setContainer 2 = .ok (.if_icmp .lt 20, 3) := by decide +kernel
theorem dX10_setContainer_5 : decode cX10_setContainer 5 = .ok (.iload_n 1, 1) := by decide +kernel
theorem dX10_setContainer_6 : decode cX10_setContainer 6 = .ok (.bipush 40, 2) := by decide +kernel
theorem dX10_setContainer_8 : decode cX10_setContainer 8 = .ok (.if_icmp .gt 14, 3) := by decide +kernel
theorem dX10_setContainer_11 : decode cX10_setContainer 11 = .ok (.iload_n 2, 1) := by decide +kernel
theorem dX10_setContainer_12 : decode cX10_setContainer 12 = .ok (.iconst 1, 1) := by decide +kernel
theorem dX10_setContainer_13 : decode cX10_setContainer 13 = .ok (.if_icmp .lt 9, 3) := by decide +kernel
theorem dX10_setContainer_16 : decode cX10_setContainer 16 = .ok (.iload_n 2, 1) := by decide +kernel
theorem dX10_setContainer_17 : decode cX10_setContainer 17 = .ok (.bipush 40, 2) := by decide +kernel
theorem dX10_setContainer_19 : decode cX10_setContainer 19 = .ok (.if_icmp .le 6, 3) := by decide +kernel
theorem dX10_setContainer_22 : decode cX10_setContainer 22 = .ok (.ldc 88, 2) := by decide +kernel
theorem dX10_setContainer_24 : decode cX10_setContainer 24 = .ok (.ireturn, 1) := by decide +kernel
theorem dX10_setContainer_25 : decode cX10_setContainer 25 = .ok (.aload_n 0, 1) := by decide +kernel
theorem dX10_setContainer_26 : decode cX10_setContainer 26 = .ok (.getfield 62, 3) := by decide +kernel
theorem dX10_setContainer_29 : decode cX10_setContainer 29 = .ok (.aload_n 0, 1) := by decide +kernel
theorem dX10_setContainer_30 : decode cX10_setContainer 30 = .ok (.getfield 52, 3) := by decide +kernel
theorem dX10_setContainer_33 : decode cX10_setContainer 33 = .ok (.invokevirtual 125, 3) := by decide +kernel
theorem dX10_setContainer_36 : decode cX10_setContainer 36 = .ok (.aload_n 0, 1) := by decide +kernel
theorem dX10_setContainer_37 : decode cX10_setContainer 37 = .ok (.getfield 52, 3) := by decide +kernel
theorem dX10_setContainer_40 : decode cX10_setContainer 40 = .ok (.getfield 218, 3) := by decide +kernel
theorem dX10_setContainer_43 : decode cX10_setContainer 43 = .ok (.istore_n 3, 1) := by decide +kernel
theorem dX10_setContainer_44 : decode cX10_setContainer 44 = .ok (.aload_n 0, 1) := by decide +kernel
theorem dX10_setContainer_45 : decode cX10_setContainer 45 = .ok (.getfield 52, 3) := by decide +kernel
theorem dX10_setContainer_48 : decode cX10_setContainer 48 = .ok (.iload_n 1, 1) := by decide +kernel
theorem dX10_setContainer_49 : decode cX10_setContainer 49 = .ok (.putfield 221, 3) := by decide +kernel
theorem dX10_setContainer_52 : decode cX10_setContainer 52 = .ok (.aload_n 0, 1) := by decide +kernel
theorem dX10_setContainer_53 : decode cX10_setContainer 53 = .ok (.getfield 52, 3) := by decide +kernel
theorem dX10_setContainer_56 : decode cX10_setContainer 56 = .ok (.iload_n 2, 1) := by decide +kernel
theorem dX10_setContainer_57 : decode cX10_setContainer 57 = .ok (.putfield 224, 3) := by decide +kernel
theorem dX10_setContainer_60 : decode cX10_setContainer 60 = .ok (.aload_n 0, 1) := by decide +kernel
theorem dX10_setContainer_61 : decode cX10_setContainer 61 = .ok (.getfield 52, 3) := by decide +kernel
theorem dX10_setContainer_64 : decode cX10_setContainer 64 = .ok (.iconst 0, 1) := by decide +kernel
theorem dX10_setContainer_65 : decode cX10_setContainer 65 = .ok (.putfield 218, 3) := by decide +kernel
theorem dX10_setContainer_68 : decode cX10_setContainer 68 = .ok (.iload_n 3, 1) := by decide +kernel
theorem dX10_setContainer_69 : decode cX10_setContainer 69 = .ok (.ireturn, 1) := by decide +kernel
abbrev rmX10_setContainer : Room := { frames := 4, cells := 0, slots := 0, locals := 160 }
abbrev sX10_setContainer (E : EV) : List AV → AH → (Option AV → AH → Prop) → Prop := Spec E yX10_setContainer cX10_setContainer 4 (some .int) rmX10_setContainer
theorem mX10_setContainer : Mt yX10_setContainer cX10_setContainer 4 (some .int) 2 := ⟨k348, k1, by decide +kernel⟩
theorem vX10_setContainer : MtV yX10_setContainer 10 := ⟨k346, k347, by decide, (RX10, TX10, 12), rfl, rfl⟩
def PX10_setContainer_0 (E : EV) (post : Option AV → AH → Prop) (h : AH) (l0 : Option Nat) (l1 : Int32) (l2 : Int32) : Prop :=
  (l1 < (1 : Int32) → post (some (aI (-1000001 : Int32))) h) ∧ (¬ l1 < (1 : Int32) → ((40 : Int32) < l1 → post (some (aI (-1000001 : Int32))) h) ∧ (¬ (40 : Int32) < l1 → (l2 < (1 : Int32) → post (some (aI (-1000001 : Int32))) h) ∧ (¬ l2 < (1 : Int32) → (l2 ≤ (40 : Int32) → rdP h l0 10 7 fun x1 => rdP h l0 10 5 fun x2 => CV (sX1_save E) x1 1 [aP x2] h (kV fun h4 => rdP h4 l0 10 5 fun x5 => rdI h4 x5 8 5 fun x6 => rdP h4 l0 10 5 fun x8 => wr h4 x8 8 6 (aI l1) fun h9 => rdP h9 l0 10 5 fun x10 => wr h9 x10 8 7 (aI l2) fun h11 => rdP h11 l0 10 5 fun x12 => wr h11 x12 8 5 (aI (0 : Int32)) fun h13 => post (some (aI x6)) h13)) ∧ (¬ l2 ≤ (40 : Int32) → post (some (aI (-1000001 : Int32))) h))))
theorem bX10_setContainer_0 {E : EV} {X : AX} {post : Option AV → AH → Prop} (C : Cb E X cX10_setContainer RX10 4 rmX10_setContainer) (D : Cr E X (some .int) rmX10_setContainer "setContainer" post) {h : AH} {l0 : Option Nat} {l1 : Int32} {l2 : Int32} (w : PX10_setContainer_0 E post h l0 l1 l2) : Go E X 4 0 0 0 [(0, aP l0), (1, aI l1), (2, aI l2)] [] h := by
  unfold PX10_setContainer_0 at w
  refine r_iload_n C dX10_setContainer_0 rfl 1 rfl ?_
  refine r_iconst (v := 1) C dX10_setContainer_1 rfl ?_
  refine r_icmp_lt C dX10_setContainer_2 (tgt := 22) rfl (fun hc => ?_) (fun hc => ?_)
  · have w := w.1 hc
    refine r_ldc (v := -1000001) C dX10_setContainer_22 k349 ?_
    exact r_iret C D rfl (Nat.zero_le _) (Nat.zero_le _) dX10_setContainer_24 w
  · have w := w.2 hc
    refine r_iload_n C dX10_setContainer_5 rfl 1 rfl ?_
    refine r_bipush (v := 40) C dX10_setContainer_6 rfl ?_
    refine r_icmp_gt C dX10_setContainer_8 (tgt := 22) rfl (fun hc => ?_) (fun hc => ?_)
    · have w := w.1 hc
      refine r_ldc (v := -1000001) C dX10_setContainer_22 k349 ?_
      exact r_iret C D rfl (Nat.zero_le _) (Nat.zero_le _) dX10_setContainer_24 w
    · have w := w.2 hc
      refine r_iload_n C dX10_setContainer_11 rfl 2 rfl ?_
      refine r_iconst (v := 1) C dX10_setContainer_12 rfl ?_
      refine r_icmp_lt C dX10_setContainer_13 (tgt := 22) rfl (fun hc => ?_) (fun hc => ?_)
      · have w := w.1 hc
        refine r_ldc (v := -1000001) C dX10_setContainer_22 k349 ?_
        exact r_iret C D rfl (Nat.zero_le _) (Nat.zero_le _) dX10_setContainer_24 w
      · have w := w.2 hc
        refine r_iload_n C dX10_setContainer_16 rfl 2 rfl ?_
        refine r_bipush (v := 40) C dX10_setContainer_17 rfl ?_
        refine r_icmp_le C dX10_setContainer_19 (tgt := 25) rfl (fun hc => ?_) (fun hc => ?_)
        · have w := w.1 hc
          refine r_aload_n C dX10_setContainer_25 rfl 0 rfl ?_
          refine r_getP C fcX10 (f := 7) (by decide) rfl k315 dX10_setContainer_26 (w.mono fun x1 w => ?_)
          refine r_aload_n C dX10_setContainer_29 rfl 0 rfl ?_
          refine r_getP C fcX10 (f := 5) (by decide) rfl k313 dX10_setContainer_30 (w.mono fun x2 w => ?_)
          refine r_cvV (rm' := rmX1_save) C mX1_save vX1_save k350 [aP x2] [] rfl rfl (Nat.le_of_ble_eq_true rfl) (by decide) ⟨Nat.zero_le _, Nat.zero_le _⟩ 0 0 rfl rfl dX10_setContainer_33 w (fun h4 w => ?_)
          refine r_aload_n C dX10_setContainer_36 rfl 0 rfl ?_
          refine r_getP C fcX10 (f := 5) (by decide) rfl k313 dX10_setContainer_37 (w.mono fun x5 w => ?_)
          refine r_getI C fcX8 (f := 5) (by decide) rfl k258 dX10_setContainer_40 (w.mono fun x6 w => ?_)
          refine r_istore_n C dX10_setContainer_43 rfl (by decide) rfl ?_
          refine r_aload_n C dX10_setContainer_44 rfl 1 rfl ?_
          refine r_getP C fcX10 (f := 5) (by decide) rfl k313 dX10_setContainer_45 (w.mono fun x8 w => ?_)
          refine r_iload_n C dX10_setContainer_48 rfl 2 rfl ?_
          refine r_put C fcX8 (f := 6) (by decide) rfl rfl rfl rfl k261 dX10_setContainer_49 (w.mono fun h9 w => ?_)
          refine r_aload_n C dX10_setContainer_52 rfl 1 rfl ?_
          refine r_getP C fcX10 (f := 5) (by decide) rfl k313 dX10_setContainer_53 (w.mono fun x10 w => ?_)
          refine r_iload_n C dX10_setContainer_56 rfl 3 rfl ?_
          refine r_put C fcX8 (f := 7) (by decide) rfl rfl rfl rfl k264 dX10_setContainer_57 (w.mono fun h11 w => ?_)
          refine r_aload_n C dX10_setContainer_60 rfl 1 rfl ?_
          refine r_getP C fcX10 (f := 5) (by decide) rfl k313 dX10_setContainer_61 (w.mono fun x12 w => ?_)
          refine r_iconst (v := 0) C dX10_setContainer_64 rfl ?_
          refine r_put C fcX8 (f := 5) (by decide) rfl rfl rfl rfl k258 dX10_setContainer_65 (w.mono fun h13 w => ?_)
          refine r_iload_n C dX10_setContainer_68 rfl 0 rfl ?_
          exact r_iret C D rfl (Nat.zero_le _) (Nat.zero_le _) dX10_setContainer_69 w
        · have w := w.2 hc
          refine r_ldc (v := -1000001) C dX10_setContainer_22 k349 ?_
          exact r_iret C D rfl (Nat.zero_le _) (Nat.zero_le _) dX10_setContainer_24 w
theorem eX10_setContainer {E : EV} {post : Option AV → AH → Prop} {h : AH} {l0 : Option Nat} {l1 : Int32} {l2 : Int32} (w : PX10_setContainer_0 E post h l0 l1 l2) : sX10_setContainer E [aP l0, aI l1, aI l2] h post := Spec.of RX10 rfl rfl (Nat.le_of_ble_eq_true rfl) fun X C D => bX10_setContainer_0 C D w
theorem dX10_slideItem_0 : decode cX10_slideItem 0 = .ok (.aload_n 0, 1) := by decide +kernel
theorem dX10_slideItem_1 : decode cX10_slideItem 1 = .ok (.iload_n 1, 1) := by decide +kernel
theorem dX10_slideItem_2 : decode cX10_slideItem 2 = .ok (.invokevirtual 258, 3) := by decide +kernel
theorem dX10_slideItem_5 : decode cX10_slideItem 5 = .ok (.ifCond .eq 10, 3) := by decide +kernel
theorem dX10_slideItem_8 : decode cX10_slideItem 8 = .ok (.iload_n 2, 1) := by decide +kernel
theorem dX10_slideItem_9 : decode cX10_slideItem 9 = .ok (.invokestatic 168, 3) := by decide +kernel
theorem dX10_slideItem_12 : decode cX10_slideItem 12 = .ok (.ifCond .ne 6, 3) := by decide +kernel
theorem dX10_slideItem_15 : decode cX10_slideItem 15 = .ok (.ldc 88, 2) := by decide +kernel
theorem dX10_slideItem_17 : decode cX10_slideItem 17 = .ok (.ireturn, 1) := by decide +kernel
theorem dX10_slideItem_18 : decode cX10_slideItem 18 = .ok (.aload_n 0, 1) := by decide +kernel
theorem dX10_slideItem_19 : decode cX10_slideItem 19 = .ok (.getfield 56, 3) := by decide +kernel
theorem dX10_slideItem_22 : decode cX10_slideItem 22 = .ok (.aload_n 0, 1) := by decide +kernel
theorem dX10_slideItem_23 : decode cX10_slideItem 23 = .ok (.getfield 52, 3) := by decide +kernel
theorem dX10_slideItem_26 : decode cX10_slideItem 26 = .ok (.invokevirtual 209, 3) := by decide +kernel
theorem dX10_slideItem_29 : decode cX10_slideItem 29 = .ok (.aload_n 0, 1) := by decide +kernel
theorem dX10_slideItem_30 : decode cX10_slideItem 30 = .ok (.getfield 43, 3) := by decide +kernel
theorem dX10_slideItem_33 : decode cX10_slideItem 33 = .ok (.aload_n 0, 1) := by decide +kernel
theorem dX10_slideItem_34 : decode cX10_slideItem 34 = .ok (.getfield 52, 3) := by decide +kernel
theorem dX10_slideItem_37 : decode cX10_slideItem 37 = .ok (.aload_n 0, 1) := by decide +kernel
theorem dX10_slideItem_38 : decode cX10_slideItem 38 = .ok (.getfield 52, 3) := by decide +kernel
theorem dX10_slideItem_41 : decode cX10_slideItem 41 = .ok (.iload_n 1, 1) := by decide +kernel
theorem dX10_slideItem_42 : decode cX10_slideItem 42 = .ok (.invokevirtual 261, 3) := by decide +kernel
theorem dX10_slideItem_45 : decode cX10_slideItem 45 = .ok (.iload_n 1, 1) := by decide +kernel
theorem dX10_slideItem_46 : decode cX10_slideItem 46 = .ok (.invokevirtual 263, 3) := by decide +kernel
theorem dX10_slideItem_49 : decode cX10_slideItem 49 = .ok (.aload_n 0, 1) := by decide +kernel
theorem dX10_slideItem_50 : decode cX10_slideItem 50 = .ok (.iload_n 1, 1) := by decide +kernel
theorem dX10_slideItem_51 : decode cX10_slideItem 51 = .ok (.iload_n 2, 1) := by decide +kernel
theorem dX10_slideItem_52 : decode cX10_slideItem 52 = .ok (.invokevirtual 267, 3) := by decide +kernel
theorem dX10_slideItem_55 : decode cX10_slideItem 55 = .ok (.istore_n 3, 1) := by decide +kernel
theorem dX10_slideItem_56 : decode cX10_slideItem 56 = .ok (.iload_n 3, 1) := by decide +kernel
theorem dX10_slideItem_57 : decode cX10_slideItem 57 = .ok (.ifCond .ne 6, 3) := by decide +kernel
theorem dX10_slideItem_60 : decode cX10_slideItem 60 = .ok (.ldc 160, 2) := by decide +kernel
theorem dX10_slideItem_62 : decode cX10_slideItem 62 = .ok (.ireturn, 1) := by decide +kernel
theorem dX10_slideItem_63 : decode cX10_slideItem 63 = .ok (.aload_n 0, 1) := by decide +kernel
theorem dX10_slideItem_64 : decode cX10_slideItem 64 = .ok (.getfield 62, 3) := by decide +kernel
theorem dX10_slideItem_67 : decode cX10_slideItem 67 = .ok (.aload_n 0, 1) := by decide +kernel
theorem dX10_slideItem_68 : decode cX10_slideItem 68 = .ok (.getfield 56, 3) := by decide +kernel
theorem dX10_slideItem_71 : decode cX10_slideItem 71 = .ok (.invokevirtual 125, 3) := by decide +kernel
theorem dX10_slideItem_74 : decode cX10_slideItem 74 = .ok (.iload_n 3, 1) := by decide +kernel
theorem dX10_slideItem_75 : decode cX10_slideItem 75 = .ok (.ireturn, 1) := by decide +kernel
abbrev rmX10_slideItem : Room := { frames := 5, cells := 0, slots := 0, locals := 200 }
abbrev sX10_slideItem (E : EV) : List AV → AH → (Option AV → AH → Prop) → Prop := Spec E yX10_slideItem cX10_slideItem 4 (some .int) rmX10_slideItem
theorem mX10_slideItem : Mt yX10_slideItem cX10_slideItem 4 (some .int) 2 := ⟨k845, k1, by decide +kernel⟩
theorem vX10_slideItem : MtV yX10_slideItem 10 := ⟨k843, k844, by decide, (RX10, TX10, 12), rfl, rfl⟩
def PX10_slideItem_0 (E : EV) (post : Option AV → AH → Prop) (h : AH) (l0 : Option Nat) (l1 : Int32) (l2 : Int32) : Prop :=
  CV (sX10_isItem E) l0 10 [aI l1] h (kI fun x1 h2 => (x1 = 0 → post (some (aI (-1000001 : Int32))) h2) ∧ (¬ x1 = 0 → CS (sX10_isDirection E) [aI l2] h2 (kI fun x3 h4 => (¬ x3 = 0 → rdP h4 l0 10 6 fun x5 => rdP h4 l0 10 5 fun x6 => CV (sX8_copy E) x5 8 [aP x6] h4 (kV fun h8 => rdP h8 l0 10 4 fun x9 => rdP h8 l0 10 5 fun x10 => rdP h8 l0 10 5 fun x11 => CV (sX8_shape E) x11 8 [aI l1] h8 (kP fun x12 h13 => CV (sX4_prepare E) x9 4 [aP x10, aP x12, aI l1] h13 (kV fun h15 => CV (sX10_moveItem E) l0 10 [aI l1, aI l2] h15 (kI fun x16 h17 => (¬ x16 = 0 → rdP h17 l0 10 7 fun x19 => rdP h17 l0 10 6 fun x20 => CV (sX1_save E) x19 1 [aP x20] h17 (kV fun h22 => post (some (aI x16)) h22)) ∧ (x16 = 0 → post (some (aI (-1000009 : Int32))) h17)))))) ∧ (x3 = 0 → post (some (aI (-1000001 : Int32))) h4))))
theorem bX10_slideItem_0 {E : EV} {X : AX} {post : Option AV → AH → Prop} (C : Cb E X cX10_slideItem RX10 4 rmX10_slideItem) (D : Cr E X (some .int) rmX10_slideItem "slideItem" post) {h : AH} {l0 : Option Nat} {l1 : Int32} {l2 : Int32} (w : PX10_slideItem_0 E post h l0 l1 l2) : Go E X 4 0 0 0 [(0, aP l0), (1, aI l1), (2, aI l2)] [] h := by
  unfold PX10_slideItem_0 at w
  refine r_aload_n C dX10_slideItem_0 rfl 0 rfl ?_
  refine r_iload_n C dX10_slideItem_1 rfl 1 rfl ?_
  refine r_cvI (rm' := rmX10_isItem) C mX10_isItem vX10_isItem k398 [aI l1] [] rfl rfl (Nat.le_of_ble_eq_true rfl) (by decide) ⟨Nat.zero_le _, Nat.zero_le _⟩ 0 0 rfl rfl dX10_slideItem_2 w (fun x1 h2 w => ?_)
  refine r_if_eq C dX10_slideItem_5 (tgt := 15) rfl (fun hc => ?_) (fun hc => ?_)
  · have w := w.1 hc
    refine r_ldc (v := -1000001) C dX10_slideItem_15 k349 ?_
    exact r_iret C D rfl (Nat.zero_le _) (Nat.zero_le _) dX10_slideItem_17 w
  · have w := w.2 hc
    refine r_iload_n C dX10_slideItem_8 rfl 2 rfl ?_
    refine r_csI (rm' := rmX10_isDirection) C mX10_isDirection vX10_isDirection k504 [aI l2] [] rfl rfl (Nat.le_of_ble_eq_true rfl) (by decide) ⟨Nat.zero_le _, Nat.zero_le _⟩ 0 0 rfl rfl dX10_slideItem_9 w (fun x3 h4 w => ?_)
    refine r_if_ne C dX10_slideItem_12 (tgt := 18) rfl (fun hc => ?_) (fun hc => ?_)
    · have w := w.1 hc
      refine r_aload_n C dX10_slideItem_18 rfl 0 rfl ?_
      refine r_getP C fcX10 (f := 6) (by decide) rfl k314 dX10_slideItem_19 (w.mono fun x5 w => ?_)
      refine r_aload_n C dX10_slideItem_22 rfl 0 rfl ?_
      refine r_getP C fcX10 (f := 5) (by decide) rfl k313 dX10_slideItem_23 (w.mono fun x6 w => ?_)
      refine r_cvV (rm' := rmX8_copy) C mX8_copy vX8_copy k783 [aP x6] [] rfl rfl (Nat.le_of_ble_eq_true rfl) (by decide) ⟨Nat.zero_le _, Nat.zero_le _⟩ 0 0 rfl rfl dX10_slideItem_26 w (fun h8 w => ?_)
      refine r_aload_n C dX10_slideItem_29 rfl 0 rfl ?_
      refine r_getP C fcX10 (f := 4) (by decide) rfl k312 dX10_slideItem_30 (w.mono fun x9 w => ?_)
      refine r_aload_n C dX10_slideItem_33 rfl 0 rfl ?_
      refine r_getP C fcX10 (f := 5) (by decide) rfl k313 dX10_slideItem_34 (w.mono fun x10 w => ?_)
      refine r_aload_n C dX10_slideItem_37 rfl 0 rfl ?_
      refine r_getP C fcX10 (f := 5) (by decide) rfl k313 dX10_slideItem_38 (w.mono fun x11 w => ?_)
      refine r_iload_n C dX10_slideItem_41 rfl 1 rfl ?_
      refine r_cvP (rm' := rmX8_shape) C mX8_shape vX8_shape k411 [aI l1] [aP x10, aP x9] rfl rfl (Nat.le_of_ble_eq_true rfl) (by decide) ⟨Nat.zero_le _, Nat.zero_le _⟩ 0 0 rfl rfl dX10_slideItem_42 w (fun x12 h13 w => ?_)
      refine r_iload_n C dX10_slideItem_45 rfl 1 rfl ?_
      refine r_cvV (rm' := rmX4_prepare) C mX4_prepare vX4_prepare k637 [aP x10, aP x12, aI l1] [] rfl rfl (Nat.le_of_ble_eq_true rfl) (by decide) ⟨Nat.zero_le _, Nat.zero_le _⟩ 0 0 rfl rfl dX10_slideItem_46 w (fun h15 w => ?_)
      refine r_aload_n C dX10_slideItem_49 rfl 0 rfl ?_
      refine r_iload_n C dX10_slideItem_50 rfl 1 rfl ?_
      refine r_iload_n C dX10_slideItem_51 rfl 2 rfl ?_
      refine r_cvI (rm' := rmX10_moveItem) C mX10_moveItem vX10_moveItem k794 [aI l1, aI l2] [] rfl rfl (Nat.le_of_ble_eq_true rfl) (by decide) ⟨Nat.zero_le _, Nat.zero_le _⟩ 0 0 rfl rfl dX10_slideItem_52 w (fun x16 h17 w => ?_)
      refine r_istore_n C dX10_slideItem_55 rfl (by decide) rfl ?_
      refine r_iload_n C dX10_slideItem_56 rfl 0 rfl ?_
      refine r_if_ne C dX10_slideItem_57 (tgt := 63) rfl (fun hc => ?_) (fun hc => ?_)
      · have w := w.1 hc
        refine r_aload_n C dX10_slideItem_63 rfl 1 rfl ?_
        refine r_getP C fcX10 (f := 7) (by decide) rfl k315 dX10_slideItem_64 (w.mono fun x19 w => ?_)
        refine r_aload_n C dX10_slideItem_67 rfl 1 rfl ?_
        refine r_getP C fcX10 (f := 6) (by decide) rfl k314 dX10_slideItem_68 (w.mono fun x20 w => ?_)
        refine r_cvV (rm' := rmX1_save) C mX1_save vX1_save k350 [aP x20] [] rfl rfl (Nat.le_of_ble_eq_true rfl) (by decide) ⟨Nat.zero_le _, Nat.zero_le _⟩ 0 0 rfl rfl dX10_slideItem_71 w (fun h22 w => ?_)
        refine r_iload_n C dX10_slideItem_74 rfl 0 rfl ?_
        exact r_iret C D rfl (Nat.zero_le _) (Nat.zero_le _) dX10_slideItem_75 w
      · have w := w.2 hc
        refine r_ldc (v := -1000009) C dX10_slideItem_60 k537 ?_
        exact r_iret C D rfl (Nat.zero_le _) (Nat.zero_le _) dX10_slideItem_62 w
    · have w := w.2 hc
      refine r_ldc (v := -1000001) C dX10_slideItem_15 k349 ?_
      exact r_iret C D rfl (Nat.zero_le _) (Nat.zero_le _) dX10_slideItem_17 w
theorem eX10_slideItem {E : EV} {post : Option AV → AH → Prop} {h : AH} {l0 : Option Nat} {l1 : Int32} {l2 : Int32} (w : PX10_slideItem_0 E post h l0 l1 l2) : sX10_slideItem E [aP l0, aI l1, aI l2] h post := Spec.of RX10 rfl rfl (Nat.le_of_ble_eq_true rfl) fun X C D => bX10_slideItem_0 C D w
theorem dX10_touchingPairs_0 : decode cX10_touchingPairs 0 = .ok (.iconst 0, 1) := by decide +kernel
theorem dX10_touchingPairs_1 : decode cX10_touchingPairs 1 = .ok (.istore_n 1, 1) := by decide +kernel
theorem dX10_touchingPairs_2 : decode cX10_touchingPairs 2 = .ok (.iconst 0, 1) := by decide +kernel
theorem dX10_touchingPairs_3 : decode cX10_touchingPairs 3 = .ok (.istore_n 2, 1) := by decide +kernel
theorem dX10_touchingPairs_4 : decode cX10_touchingPairs 4 = .ok (.iload_n 2, 1) := by decide +kernel
theorem dX10_touchingPairs_5 : decode cX10_touchingPairs 5 = .ok (.aload_n 0, 1) := by decide +kernel
theorem dX10_touchingPairs_6 : decode cX10_touchingPairs 6 = .ok (.getfield 52, 3) := by decide +kernel
theorem dX10_touchingPairs_9 : decode cX10_touchingPairs 9 = .ok (.getfield 218, 3) := by decide +kernel
theorem dX10_touchingPairs_12 : decode cX10_touchingPairs 12 = .ok (.if_icmp .ge 102, 3) := by decide +kernel
theorem dX10_touchingPairs_15 : decode cX10_touchingPairs 15 = .ok (.iload_n 2, 1) := by decide +kernel
theorem dX10_touchingPairs_16 : decode cX10_touchingPairs 16 = .ok (.iconst 1, 1) := by decide +kernel
theorem dX10_touchingPairs_17 : decode cX10_touchingPairs 17 = .ok (.iadd, 1) := by decide +kernel
theorem dX10_touchingPairs_18 : decode cX10_touchingPairs 18 = .ok (.istore_n 3, 1) := by decide +kernel
theorem dX10_touchingPairs_19 : decode cX10_touchingPairs 19 = .ok (.iload_n 3, 1) := by decide +kernel
theorem dX10_touchingPairs_20 : decode cX10_touchingPairs 20 = .ok (.aload_n 0, 1) := by decide +kernel
theorem dX10_touchingPairs_21 : decode cX10_touchingPairs 21 = .ok (.getfield 52, 3) := by decide +kernel
theorem dX10_touchingPairs_24 : decode cX10_touchingPairs 24 = .ok (.getfield 218, 3) := by decide +kernel
theorem dX10_touchingPairs_27 : decode cX10_touchingPairs 27 = .ok (.if_icmp .ge 81, 3) := by decide +kernel
theorem dX10_touchingPairs_30 : decode cX10_touchingPairs 30 = .ok (.aload_n 0, 1) := by decide +kernel
theorem dX10_touchingPairs_31 : decode cX10_touchingPairs 31 = .ok (.getfield 52, 3) := by decide +kernel
theorem dX10_touchingPairs_34 : decode cX10_touchingPairs 34 = .ok (.iload_n 3, 1) := by decide +kernel
theorem dX10_touchingPairs_35 : decode cX10_touchingPairs 35 = .ok (.invokevirtual 274, 3) := by decide +kernel
theorem dX10_touchingPairs_38 : decode cX10_touchingPairs 38 = .ok (.aload_n 0, 1) := by decide +kernel
theorem dX10_touchingPairs_39 : decode cX10_touchingPairs 39 = .ok (.getfield 52, 3) := by decide +kernel
theorem dX10_touchingPairs_42 : decode cX10_touchingPairs 42 = .ok (.iload_n 2, 1) := by decide +kernel
theorem dX10_touchingPairs_43 : decode cX10_touchingPairs 43 = .ok (.invokevirtual 274, 3) := by decide +kernel
theorem dX10_touchingPairs_46 : decode cX10_touchingPairs 46 = .ok (.isub, 1) := by decide +kernel
theorem dX10_touchingPairs_47 : decode cX10_touchingPairs 47 = .ok (.istore 4, 2) := by decide +kernel
theorem dX10_touchingPairs_49 : decode cX10_touchingPairs 49 = .ok (.aload_n 0, 1) := by decide +kernel
theorem dX10_touchingPairs_50 : decode cX10_touchingPairs 50 = .ok (.getfield 52, 3) := by decide +kernel
theorem dX10_touchingPairs_53 : decode cX10_touchingPairs 53 = .ok (.iload_n 3, 1) := by decide +kernel
theorem dX10_touchingPairs_54 : decode cX10_touchingPairs 54 = .ok (.invokevirtual 275, 3) := by decide +kernel
theorem dX10_touchingPairs_57 : decode cX10_touchingPairs 57 = .ok (.aload_n 0, 1) := by decide +kernel
theorem dX10_touchingPairs_58 : decode cX10_touchingPairs 58 = .ok (.getfield 52, 3) := by decide +kernel
theorem dX10_touchingPairs_61 : decode cX10_touchingPairs 61 = .ok (.iload_n 2, 1) := by decide +kernel
theorem dX10_touchingPairs_62 : decode cX10_touchingPairs 62 = .ok (.invokevirtual 275, 3) := by decide +kernel
theorem dX10_touchingPairs_65 : decode cX10_touchingPairs 65 = .ok (.isub, 1) := by decide +kernel
theorem dX10_touchingPairs_66 : decode cX10_touchingPairs 66 = .ok (.istore 5, 2) := by decide +kernel
theorem dX10_touchingPairs_68 : decode cX10_touchingPairs 68 = .ok (.aload_n 0, 1) := by decide +kernel
theorem dX10_touchingPairs_69 : decode cX10_touchingPairs 69 = .ok (.getfield 36, 3) := by decide +kernel
theorem dX10_touchingPairs_72 : decode cX10_touchingPairs 72 = .ok (.aload_n 0, 1) := by decide +kernel
theorem dX10_touchingPairs_73 : decode cX10_touchingPairs 73 = .ok (.getfield 52, 3) := by decide +kernel
theorem dX10_touchingPairs_76 : decode cX10_touchingPairs 76 = .ok (.iload_n 2, 1) := by decide +kernel
theorem dX10_touchingPairs_77 : decode cX10_touchingPairs 77 = .ok (.invokevirtual 261, 3) := by decide +kernel
theorem dX10_touchingPairs_80 : decode cX10_touchingPairs 80 = .ok (.aload_n 0, 1) := by decide +kernel
theorem dX10_touchingPairs_81 : decode cX10_touchingPairs 81 = .ok (.getfield 52, 3) := by decide +kernel
theorem dX10_touchingPairs_84 : decode cX10_touchingPairs 84 = .ok (.iload_n 3, 1) := by decide +kernel
theorem dX10_touchingPairs_85 : decode cX10_touchingPairs 85 = .ok (.invokevirtual 261, 3) := by decide +kernel
theorem dX10_touchingPairs_88 : decode cX10_touchingPairs 88 = .ok (.iload 4, 2) := by decide +kernel
theorem dX10_touchingPairs_90 : decode cX10_touchingPairs 90 = .ok (.iload 5, 2) := by decide +kernel
theorem dX10_touchingPairs_92 : decode cX10_touchingPairs 92 = .ok (.invokevirtual 191, 3) := by decide +kernel
theorem dX10_touchingPairs_95 : decode cX10_touchingPairs 95 = .ok (.iconst 1, 1) := by decide +kernel
theorem dX10_touchingPairs_96 : decode cX10_touchingPairs 96 = .ok (.if_icmp .ne 6, 3) := by decide +kernel
theorem dX10_touchingPairs_99 : decode cX10_touchingPairs 99 = .ok (.iinc 1 1, 3) := by decide +kernel
theorem dX10_touchingPairs_102 : decode cX10_touchingPairs 102 = .ok (.iinc 3 1, 3) := by decide +kernel
theorem dX10_touchingPairs_105 : decode cX10_touchingPairs 105 = .ok (.goto (-86), 3) := by decide +kernel
theorem dX10_touchingPairs_108 : decode cX10_touchingPairs 108 = .ok (.iinc 2 1, 3) := by decide +kernel
theorem dX10_touchingPairs_111 : decode cX10_touchingPairs 111 = .ok (.goto (-107), 3) := by decide +kernel
theorem dX10_touchingPairs_114 : decode cX10_touchingPairs 114 = .ok (.iload_n 1, 1) := by decide +kernel
theorem dX10_touchingPairs_115 : decode cX10_touchingPairs 115 = .ok (.ireturn, 1) := by decide +kernel
abbrev rmX10_touchingPairs : Room := { frames := 5, cells := 0, slots := 0, locals := 200 }
abbrev sX10_touchingPairs (E : EV) : List AV → AH → (Option AV → AH → Prop) → Prop := Spec E yX10_touchingPairs cX10_touchingPairs 6 (some .int) rmX10_touchingPairs
theorem mX10_touchingPairs : Mt yX10_touchingPairs cX10_touchingPairs 6 (some .int) 0 := ⟨k551, k1, by decide +kernel⟩
theorem vX10_touchingPairs : MtV yX10_touchingPairs 10 := ⟨k549, k550, by decide, (RX10, TX10, 12), rfl, rfl⟩
def PX10_touchingPairs_19 (E : EV) (post : Option AV → AH → Prop) (J4 : AH → Option Nat → Int32 → Int32 → Prop) (J19 : AH → Option Nat → Int32 → Int32 → Int32 → Prop) (h : AH) (l0 : Option Nat) (l1 : Int32) (l2 : Int32) (l3 : Int32) : Prop :=
  rdP h l0 10 5 fun x1 => rdI h x1 8 5 fun x2 => (x2 ≤ l3 → J4 h l0 l1 (l2 + (1 : Int32))) ∧ (¬ x2 ≤ l3 → rdP h l0 10 5 fun x3 => CV (sX8_x E) x3 8 [aI l3] h (kI fun x4 h5 => rdP h5 l0 10 5 fun x6 => CV (sX8_x E) x6 8 [aI l2] h5 (kI fun x7 h8 => ∀ v9, v9 = (x4 - x7) → rdP h8 l0 10 5 fun x10 => CV (sX8_y E) x10 8 [aI l3] h8 (kI fun x11 h12 => rdP h12 l0 10 5 fun x13 => CV (sX8_y E) x13 8 [aI l2] h12 (kI fun x14 h15 => ∀ v16, v16 = (x11 - x14) → rdP h15 l0 10 3 fun x17 => rdP h15 l0 10 5 fun x18 => CV (sX8_shape E) x18 8 [aI l2] h15 (kP fun x19 h20 => rdP h20 l0 10 5 fun x21 => CV (sX8_shape E) x21 8 [aI l3] h20 (kP fun x22 h23 => CV (sX3_relation E) x17 3 [aP x19, aP x22, aI v9, aI v16] h23 (kI fun x24 h25 => (¬ x24 = (1 : Int32) → J19 h25 l0 l1 l2 (l3 + (1 : Int32))) ∧ (x24 = (1 : Int32) → J19 h25 l0 (l1 + (1 : Int32)) l2 (l3 + (1 : Int32)))))))))))
theorem bX10_touchingPairs_19 {E : EV} {X : AX} {post : Option AV → AH → Prop} (C : Cb E X cX10_touchingPairs RX10 6 rmX10_touchingPairs) (D : Cr E X (some .int) rmX10_touchingPairs "touchingPairs" post) {J4 : AH → Option Nat → Int32 → Int32 → Prop} (g4 : ∀ (h : AH) (l0 : Option Nat) (l1 : Int32) (l2 : Int32), J4 h l0 l1 l2 → Go E X 6 0 0 4 [(0, aP l0), (1, aI l1), (2, aI l2)] [] h) {J19 : AH → Option Nat → Int32 → Int32 → Int32 → Prop} (g19 : ∀ (h : AH) (l0 : Option Nat) (l1 : Int32) (l2 : Int32) (l3 : Int32), J19 h l0 l1 l2 l3 → Go E X 6 0 0 19 [(0, aP l0), (1, aI l1), (2, aI l2), (3, aI l3)] [] h) {h : AH} {l0 : Option Nat} {l1 : Int32} {l2 : Int32} {l3 : Int32} (w : PX10_touchingPairs_19 E post J4 J19 h l0 l1 l2 l3) : Go E X 6 0 0 19 [(0, aP l0), (1, aI l1), (2, aI l2), (3, aI l3)] [] h := by
  unfold PX10_touchingPairs_19 at w
  refine r_iload_n C dX10_touchingPairs_19 rfl 3 rfl ?_
  refine r_aload_n C dX10_touchingPairs_20 rfl 0 rfl ?_
  refine r_getP C fcX10 (f := 5) (by decide) rfl k313 dX10_touchingPairs_21 (w.mono fun x1 w => ?_)
  refine r_getI C fcX8 (f := 5) (by decide) rfl k258 dX10_touchingPairs_24 (w.mono fun x2 w => ?_)
  refine r_icmp_ge C dX10_touchingPairs_27 (tgt := 108) rfl (fun hc => ?_) (fun hc => ?_)
  · have w := w.1 hc
    refine r_iinc C dX10_touchingPairs_108 2 rfl (v := 1) rfl (by decide) rfl ?_
    refine r_goto C dX10_touchingPairs_111 (tgt := 4) rfl ?_
    exact r_sub [1, 2, 0] rfl (g4 h l0 l1 (l2 + (1 : Int32)) w)
  · have w := w.2 hc
    refine r_aload_n C dX10_touchingPairs_30 rfl 0 rfl ?_
    refine r_getP C fcX10 (f := 5) (by decide) rfl k313 dX10_touchingPairs_31 (w.mono fun x3 w => ?_)
    refine r_iload_n C dX10_touchingPairs_34 rfl 3 rfl ?_
    refine r_cvI (rm' := rmX8_x) C mX8_x vX8_x k409 [aI l3] [] rfl rfl (Nat.le_of_ble_eq_true rfl) (by decide) ⟨Nat.zero_le _, Nat.zero_le _⟩ 0 0 rfl rfl dX10_touchingPairs_35 w (fun x4 h5 w => ?_)
    refine r_aload_n C dX10_touchingPairs_38 rfl 0 rfl ?_
    refine r_getP C fcX10 (f := 5) (by decide) rfl k313 dX10_touchingPairs_39 (w.mono fun x6 w => ?_)
    refine r_iload_n C dX10_touchingPairs_42 rfl 2 rfl ?_
    refine r_cvI (rm' := rmX8_x) C mX8_x vX8_x k409 [aI l2] [aI x4] rfl rfl (Nat.le_of_ble_eq_true rfl) (by decide) ⟨Nat.zero_le _, Nat.zero_le _⟩ 0 0 rfl rfl dX10_touchingPairs_43 w (fun x7 h8 w => ?_)
    refine r_isub C dX10_touchingPairs_46 ?_
    refine r_istore C dX10_touchingPairs_47 (by decide) rfl ?_
    have w := w _ rfl
    skip
    refine r_aload_n C dX10_touchingPairs_49 rfl 1 rfl ?_
    refine r_getP C fcX10 (f := 5) (by decide) rfl k313 dX10_touchingPairs_50 (w.mono fun x10 w => ?_)
    refine r_iload_n C dX10_touchingPairs_53 rfl 4 rfl ?_
    refine r_cvI (rm' := rmX8_y) C mX8_y vX8_y k410 [aI l3] [] rfl rfl (Nat.le_of_ble_eq_true rfl) (by decide) ⟨Nat.zero_le _, Nat.zero_le _⟩ 0 0 rfl rfl dX10_touchingPairs_54 w (fun x11 h12 w => ?_)
    refine r_aload_n C dX10_touchingPairs_57 rfl 1 rfl ?_
    refine r_getP C fcX10 (f := 5) (by decide) rfl k313 dX10_touchingPairs_58 (w.mono fun x13 w => ?_)
    refine r_iload_n C dX10_touchingPairs_61 rfl 3 rfl ?_
    refine r_cvI (rm' := rmX8_y) C mX8_y vX8_y k410 [aI l2] [aI x11] rfl rfl (Nat.le_of_ble_eq_true rfl) (by decide) ⟨Nat.zero_le _, Nat.zero_le _⟩ 0 0 rfl rfl dX10_touchingPairs_62 w (fun x14 h15 w => ?_)
    refine r_isub C dX10_touchingPairs_65 ?_
    refine r_istore C dX10_touchingPairs_66 (by decide) rfl ?_
    have w := w _ rfl
    skip
    refine r_aload_n C dX10_touchingPairs_68 rfl 2 rfl ?_
    refine r_getP C fcX10 (f := 3) (by decide) rfl k311 dX10_touchingPairs_69 (w.mono fun x17 w => ?_)
    refine r_aload_n C dX10_touchingPairs_72 rfl 2 rfl ?_
    refine r_getP C fcX10 (f := 5) (by decide) rfl k313 dX10_touchingPairs_73 (w.mono fun x18 w => ?_)
    refine r_iload_n C dX10_touchingPairs_76 rfl 4 rfl ?_
    refine r_cvP (rm' := rmX8_shape) C mX8_shape vX8_shape k411 [aI l2] [aP x17] rfl rfl (Nat.le_of_ble_eq_true rfl) (by decide) ⟨Nat.zero_le _, Nat.zero_le _⟩ 0 0 rfl rfl dX10_touchingPairs_77 w (fun x19 h20 w => ?_)
    refine r_aload_n C dX10_touchingPairs_80 rfl 2 rfl ?_
    refine r_getP C fcX10 (f := 5) (by decide) rfl k313 dX10_touchingPairs_81 (w.mono fun x21 w => ?_)
    refine r_iload_n C dX10_touchingPairs_84 rfl 5 rfl ?_
    refine r_cvP (rm' := rmX8_shape) C mX8_shape vX8_shape k411 [aI l3] [aP x19, aP x17] rfl rfl (Nat.le_of_ble_eq_true rfl) (by decide) ⟨Nat.zero_le _, Nat.zero_le _⟩ 0 0 rfl rfl dX10_touchingPairs_85 w (fun x22 h23 w => ?_)
    refine r_iload C dX10_touchingPairs_88 1 rfl ?_
    refine r_iload C dX10_touchingPairs_90 0 rfl ?_
    refine r_cvI (rm' := rmX3_relation) C mX3_relation vX3_relation k552 [aP x19, aP x22, aI (x4 - x7), aI (x11 - x14)] [] rfl rfl (Nat.le_of_ble_eq_true rfl) (by decide) ⟨Nat.zero_le _, Nat.zero_le _⟩ 0 0 rfl rfl dX10_touchingPairs_92 w (fun x24 h25 w => ?_)
    refine r_iconst (v := 1) C dX10_touchingPairs_95 rfl ?_
    refine r_icmp_ne C dX10_touchingPairs_96 (tgt := 102) rfl (fun hc => ?_) (fun hc => ?_)
    · have w := w.1 hc
      refine r_iinc C dX10_touchingPairs_102 5 rfl (v := 1) rfl (by decide) rfl ?_
      refine r_goto C dX10_touchingPairs_105 (tgt := 19) rfl ?_
      exact r_sub [3, 4, 5, 0] rfl (g19 h25 l0 l1 l2 (l3 + (1 : Int32)) w)
    · have w := w.2 hc
      refine r_iinc C dX10_touchingPairs_99 3 rfl (v := 1) rfl (by decide) rfl ?_
      refine r_iinc C dX10_touchingPairs_102 5 rfl (v := 1) rfl (by decide) rfl ?_
      refine r_goto C dX10_touchingPairs_105 (tgt := 19) rfl ?_
      exact r_sub [4, 1, 5, 0] rfl (g19 h25 l0 (l1 + (1 : Int32)) l2 (l3 + (1 : Int32)) w)
theorem lpX10_touchingPairs_19 {E : EV} {X : AX} {post : Option AV → AH → Prop} (C : Cb E X cX10_touchingPairs RX10 6 rmX10_touchingPairs) (D : Cr E X (some .int) rmX10_touchingPairs "touchingPairs" post) {J4 : AH → Option Nat → Int32 → Int32 → Prop} (g4 : ∀ (h : AH) (l0 : Option Nat) (l1 : Int32) (l2 : Int32), J4 h l0 l1 l2 → Go E X 6 0 0 4 [(0, aP l0), (1, aI l1), (2, aI l2)] [] h) (I : Nat → AH → Option Nat → Int32 → Int32 → Int32 → Prop) (step : ∀ (z : Nat) (h : AH) (l0 : Option Nat) (l1 : Int32) (l2 : Int32) (l3 : Int32), I z h l0 l1 l2 l3 → PX10_touchingPairs_19 E post J4 (fun h l0 l1 l2 l3 => ∃ z', z' < z ∧ I z' h l0 l1 l2 l3) h l0 l1 l2 l3) : ∀ (z : Nat) (h : AH) (l0 : Option Nat) (l1 : Int32) (l2 : Int32) (l3 : Int32), I z h l0 l1 l2 l3 → Go E X 6 0 0 19 [(0, aP l0), (1, aI l1), (2, aI l2), (3, aI l3)] [] h := by
  intro z
  induction z using Nat.strongRecOn with
  | _ z ih =>
    intro h l0 l1 l2 l3 hI
    exact bX10_touchingPairs_19 C D g4 (fun h l0 l1 l2 l3 hJ => by obtain ⟨z', hz, hi⟩ := hJ; exact ih z' hz h l0 l1 l2 l3 hi) (step z h l0 l1 l2 l3 hI)
def PX10_touchingPairs_4 (E : EV) (post : Option AV → AH → Prop) (J19 : AH → Option Nat → Int32 → Int32 → Int32 → Prop) (h : AH) (l0 : Option Nat) (l1 : Int32) (l2 : Int32) : Prop :=
  rdP h l0 10 5 fun x1 => rdI h x1 8 5 fun x2 => (x2 ≤ l2 → post (some (aI l1)) h) ∧ (¬ x2 ≤ l2 → ∀ v3, v3 = (l2 + (1 : Int32)) → J19 h l0 l1 l2 v3)
theorem bX10_touchingPairs_4 {E : EV} {X : AX} {post : Option AV → AH → Prop} (C : Cb E X cX10_touchingPairs RX10 6 rmX10_touchingPairs) (D : Cr E X (some .int) rmX10_touchingPairs "touchingPairs" post) {J19 : AH → Option Nat → Int32 → Int32 → Int32 → Prop} (g19 : ∀ (h : AH) (l0 : Option Nat) (l1 : Int32) (l2 : Int32) (l3 : Int32), J19 h l0 l1 l2 l3 → Go E X 6 0 0 19 [(0, aP l0), (1, aI l1), (2, aI l2), (3, aI l3)] [] h) {h : AH} {l0 : Option Nat} {l1 : Int32} {l2 : Int32} (w : PX10_touchingPairs_4 E post J19 h l0 l1 l2) : Go E X 6 0 0 4 [(0, aP l0), (1, aI l1), (2, aI l2)] [] h := by
  unfold PX10_touchingPairs_4 at w
  refine r_iload_n C dX10_touchingPairs_4 rfl 2 rfl ?_
  refine r_aload_n C dX10_touchingPairs_5 rfl 0 rfl ?_
  refine r_getP C fcX10 (f := 5) (by decide) rfl k313 dX10_touchingPairs_6 (w.mono fun x1 w => ?_)
  refine r_getI C fcX8 (f := 5) (by decide) rfl k258 dX10_touchingPairs_9 (w.mono fun x2 w => ?_)
  refine r_icmp_ge C dX10_touchingPairs_12 (tgt := 114) rfl (fun hc => ?_) (fun hc => ?_)
  · have w := w.1 hc
    refine r_iload_n C dX10_touchingPairs_114 rfl 1 rfl ?_
    exact r_iret C D rfl (Nat.zero_le _) (Nat.zero_le _) dX10_touchingPairs_115 w
  · have w := w.2 hc
    refine r_iload_n C dX10_touchingPairs_15 rfl 2 rfl ?_
    refine r_iconst (v := 1) C dX10_touchingPairs_16 rfl ?_
    refine r_iadd C dX10_touchingPairs_17 ?_
    refine r_istore_n C dX10_touchingPairs_18 rfl (by decide) rfl ?_
    have w := w _ rfl
    skip
    exact r_sub [1, 2, 3, 0] rfl (g19 h l0 l1 l2 (l2 + (1 : Int32)) w)
def PX10_touchingPairs_0 (E : EV) (post : Option AV → AH → Prop) (J4 : AH → Option Nat → Int32 → Int32 → Prop) (h : AH) (l0 : Option Nat) : Prop :=
  J4 h l0 (0 : Int32) (0 : Int32)
theorem bX10_touchingPairs_0 {E : EV} {X : AX} {post : Option AV → AH → Prop} (C : Cb E X cX10_touchingPairs RX10 6 rmX10_touchingPairs) (D : Cr E X (some .int) rmX10_touchingPairs "touchingPairs" post) {J4 : AH → Option Nat → Int32 → Int32 → Prop} (g4 : ∀ (h : AH) (l0 : Option Nat) (l1 : Int32) (l2 : Int32), J4 h l0 l1 l2 → Go E X 6 0 0 4 [(0, aP l0), (1, aI l1), (2, aI l2)] [] h) {h : AH} {l0 : Option Nat} (w : PX10_touchingPairs_0 E post J4 h l0) : Go E X 6 0 0 0 [(0, aP l0)] [] h := by
  unfold PX10_touchingPairs_0 at w
  refine r_iconst (v := 0) C dX10_touchingPairs_0 rfl ?_
  refine r_istore_n C dX10_touchingPairs_1 rfl (by decide) rfl ?_
  refine r_iconst (v := 0) C dX10_touchingPairs_2 rfl ?_
  refine r_istore_n C dX10_touchingPairs_3 rfl (by decide) rfl ?_
  exact r_sub [2, 1, 0] rfl (g4 h l0 (0 : Int32) (0 : Int32) w)
theorem eX10_touchingPairs {E : EV} {post : Option AV → AH → Prop} {h : AH} {l0 : Option Nat} {J4 : AH → Option Nat → Int32 → Int32 → Prop} (g4 : ∀ X : AX, Cb E X cX10_touchingPairs RX10 6 rmX10_touchingPairs → Cr E X (some .int) rmX10_touchingPairs "touchingPairs" post → ∀ (h : AH) (l0 : Option Nat) (l1 : Int32) (l2 : Int32), J4 h l0 l1 l2 → Go E X 6 0 0 4 [(0, aP l0), (1, aI l1), (2, aI l2)] [] h) (w : PX10_touchingPairs_0 E post J4 h l0) : sX10_touchingPairs E [aP l0] h post := Spec.of RX10 rfl rfl (Nat.le_of_ble_eq_true rfl) fun X C D => bX10_touchingPairs_0 C D (g4 X C D) w
theorem dX10_undo_0 : decode cX10_undo 0 = .ok (.aload_n 0, 1) := by decide +kernel
theorem dX10_undo_1 : decode cX10_undo 1 = .ok (.getfield 62, 3) := by decide +kernel
theorem dX10_undo_4 : decode cX10_undo 4 = .ok (.getfield 318, 3) := by decide +kernel
theorem dX10_undo_7 : decode cX10_undo 7 = .ok (.ifCond .ne 6, 3) := by decide +kernel
theorem dX10_undo_10 : decode cX10_undo 10 = .ok (.ldc 124, 2) := by decide +kernel
theorem dX10_undo_12 : decode cX10_undo 12 = .ok (.ireturn, 1) := by decide +kernel
theorem dX10_undo_13 : decode cX10_undo 13 = .ok (.aload_n 0, 1) := by decide +kernel
theorem dX10_undo_14 : decode cX10_undo 14 = .ok (.getfield 62, 3) := by decide +kernel
theorem dX10_undo_17 : decode cX10_undo 17 = .ok (.aload_n 0, 1) := by decide +kernel
theorem dX10_undo_18 : decode cX10_undo 18 = .ok (.getfield 52, 3) := by decide +kernel
theorem dX10_undo_21 : decode cX10_undo 21 = .ok (.invokevirtual 319, 3) := by decide +kernel
theorem dX10_undo_24 : decode cX10_undo 24 = .ok (.aload_n 0, 1) := by decide +kernel
theorem dX10_undo_25 : decode cX10_undo 25 = .ok (.getfield 62, 3) := by decide +kernel
theorem dX10_undo_28 : decode cX10_undo 28 = .ok (.getfield 318, 3) := by decide +kernel
theorem dX10_undo_31 : decode cX10_undo 31 = .ok (.ireturn, 1) := by decide +kernel
abbrev rmX10_undo : Room := { frames := 4, cells := 0, slots := 0, locals := 160 }
abbrev sX10_undo (E : EV) : List AV → AH → (Option AV → AH → Prop) → Prop := Spec E yX10_undo cX10_undo 1 (some .int) rmX10_undo
theorem mX10_undo : Mt yX10_undo cX10_undo 1 (some .int) 0 := ⟨k561, k1, by decide +kernel⟩
theorem vX10_undo : MtV yX10_undo 10 := ⟨k559, k560, by decide, (RX10, TX10, 12), rfl, rfl⟩
def PX10_undo_0 (E : EV) (post : Option AV → AH → Prop) (h : AH) (l0 : Option Nat) : Prop :=
  rdP h l0 10 7 fun x1 => rdI h x1 1 1 fun x2 => (¬ x2 = 0 → rdP h l0 10 7 fun x3 => rdP h l0 10 5 fun x4 => CV (sX1_restore E) x3 1 [aP x4] h (kV fun h6 => rdP h6 l0 10 7 fun x7 => rdI h6 x7 1 1 fun x8 => post (some (aI x8)) h6)) ∧ (x2 = 0 → post (some (aI (-1000002 : Int32))) h)
theorem bX10_undo_0 {E : EV} {X : AX} {post : Option AV → AH → Prop} (C : Cb E X cX10_undo RX10 1 rmX10_undo) (D : Cr E X (some .int) rmX10_undo "undo" post) {h : AH} {l0 : Option Nat} (w : PX10_undo_0 E post h l0) : Go E X 1 0 0 0 [(0, aP l0)] [] h := by
  unfold PX10_undo_0 at w
  refine r_aload_n C dX10_undo_0 rfl 0 rfl ?_
  refine r_getP C fcX10 (f := 7) (by decide) rfl k315 dX10_undo_1 (w.mono fun x1 w => ?_)
  refine r_getI C fcX1 (f := 1) (by decide) rfl k298 dX10_undo_4 (w.mono fun x2 w => ?_)
  refine r_if_ne C dX10_undo_7 (tgt := 13) rfl (fun hc => ?_) (fun hc => ?_)
  · have w := w.1 hc
    refine r_aload_n C dX10_undo_13 rfl 0 rfl ?_
    refine r_getP C fcX10 (f := 7) (by decide) rfl k315 dX10_undo_14 (w.mono fun x3 w => ?_)
    refine r_aload_n C dX10_undo_17 rfl 0 rfl ?_
    refine r_getP C fcX10 (f := 5) (by decide) rfl k313 dX10_undo_18 (w.mono fun x4 w => ?_)
    refine r_cvV (rm' := rmX1_restore) C mX1_restore vX1_restore k563 [aP x4] [] rfl rfl (Nat.le_of_ble_eq_true rfl) (by decide) ⟨Nat.zero_le _, Nat.zero_le _⟩ 0 0 rfl rfl dX10_undo_21 w (fun h6 w => ?_)
    refine r_aload_n C dX10_undo_24 rfl 0 rfl ?_
    refine r_getP C fcX10 (f := 7) (by decide) rfl k315 dX10_undo_25 (w.mono fun x7 w => ?_)
    refine r_getI C fcX1 (f := 1) (by decide) rfl k298 dX10_undo_28 (w.mono fun x8 w => ?_)
    exact r_iret C D rfl (Nat.zero_le _) (Nat.zero_le _) dX10_undo_31 w
  · have w := w.2 hc
    refine r_ldc (v := -1000002) C dX10_undo_10 k562 ?_
    exact r_iret C D rfl (Nat.zero_le _) (Nat.zero_le _) dX10_undo_12 w
theorem eX10_undo {E : EV} {post : Option AV → AH → Prop} {h : AH} {l0 : Option Nat} (w : PX10_undo_0 E post h l0) : sX10_undo E [aP l0] h post := Spec.of RX10 rfl rfl (Nat.le_of_ble_eq_true rfl) fun X C D => bX10_undo_0 C D w
theorem dX12_low_0 : decode cX12_low 0 = .ok (.iload_n 0, 1) := by decide +kernel
theorem dX12_low_1 : decode cX12_low 1 = .ok (.ldc 7, 2) := by decide +kernel
theorem dX12_low_3 : decode cX12_low 3 = .ok (.iand, 1) := by decide +kernel
theorem dX12_low_4 : decode cX12_low 4 = .ok (.iload_n 1, 1) := by decide +kernel
theorem dX12_low_5 : decode cX12_low 5 = .ok (.irem, 1) := by decide +kernel
theorem dX12_low_6 : decode cX12_low 6 = .ok (.ireturn, 1) := by decide +kernel
abbrev rmX12_low : Room := { frames := 0, cells := 0, slots := 0, locals := 0 }
abbrev sX12_low (E : EV) : List AV → AH → (Option AV → AH → Prop) → Prop := Spec E yX12_low cX12_low 2 (some .int) rmX12_low
theorem mX12_low : Mt yX12_low cX12_low 2 (some .int) 2 := ⟨k672, k0, by decide +kernel⟩
theorem vX12_low : MtS yX12_low := k671
def PX12_low_0 (E : EV) (post : Option AV → AH → Prop) (h : AH) (l0 : Int32) (l1 : Int32) : Prop :=
  ¬ l1 = 0 ∧ (post (some (aI ((l0 &&& (2147483647 : Int32)) - (l0 &&& (2147483647 : Int32)) / l1 * l1))) h)
theorem bX12_low_0 {E : EV} {X : AX} {post : Option AV → AH → Prop} (C : Cb E X cX12_low RX12 2 rmX12_low) (D : Cr E X (some .int) rmX12_low "low" post) {h : AH} {l0 : Int32} {l1 : Int32} (w : PX12_low_0 E post h l0 l1) : Go E X 2 0 0 0 [(0, aI l0), (1, aI l1)] [] h := by
  unfold PX12_low_0 at w
  refine r_iload_n C dX12_low_0 rfl 0 rfl ?_
  refine r_ldc (v := 2147483647) C dX12_low_1 k673 ?_
  refine r_iand C dX12_low_3 ?_
  refine r_iload_n C dX12_low_4 rfl 1 rfl ?_
  refine r_irem C dX12_low_5 w.1 ?_
  have w := w.2
  exact r_iret C D rfl (Nat.zero_le _) (Nat.zero_le _) dX12_low_6 w
theorem eX12_low {E : EV} {post : Option AV → AH → Prop} {h : AH} {l0 : Int32} {l1 : Int32} (w : PX12_low_0 E post h l0 l1) : sX12_low E [aI l0, aI l1] h post := Spec.of RX12 rfl rfl (Nat.le_of_ble_eq_true rfl) fun X C D => bX12_low_0 C D w
theorem dX12_types_0 : decode cX12_types 0 = .ok (.iconst 1, 1) := by decide +kernel
theorem dX12_types_1 : decode cX12_types 1 = .ok (.iload_n 1, 1) := by decide +kernel
theorem dX12_types_2 : decode cX12_types 2 = .ok (.bipush 6, 2) := by decide +kernel
theorem dX12_types_4 : decode cX12_types 4 = .ok (.invokestatic 61, 3) := by decide +kernel
theorem dX12_types_7 : decode cX12_types 7 = .ok (.iadd, 1) := by decide +kernel
theorem dX12_types_8 : decode cX12_types 8 = .ok (.istore_n 2, 1) := by decide +kernel
theorem dX12_types_9 : decode cX12_types 9 = .ok (.iconst 1, 1) := by decide +kernel
theorem dX12_types_10 : decode cX12_types 10 = .ok (.iload_n 1, 1) := by decide +kernel
theorem dX12_types_11 : decode cX12_types 11 = .ok (.iconst 3, 1) := by decide +kernel
theorem dX12_types_12 : decode cX12_types 12 = .ok (.ishr, 1) := by decide +kernel
theorem dX12_types_13 : decode cX12_types 13 = .ok (.bipush 6, 2) := by decide +kernel
theorem dX12_types_15 : decode cX12_types 15 = .ok (.invokestatic 61, 3) := by decide +kernel
theorem dX12_types_18 : decode cX12_types 18 = .ok (.iadd, 1) := by decide +kernel
theorem dX12_types_19 : decode cX12_types 19 = .ok (.istore_n 3, 1) := by decide +kernel
theorem dX12_types_20 : decode cX12_types 20 = .ok (.iconst 2, 1) := by decide +kernel
theorem dX12_types_21 : decode cX12_types 21 = .ok (.iload_n 2, 1) := by decide +kernel
theorem dX12_types_22 : decode cX12_types 22 = .ok (.imul, 1) := by decide +kernel
theorem dX12_types_23 : decode cX12_types 23 = .ok (.iload_n 1, 1) := by decide +kernel
theorem dX12_types_24 : decode cX12_types 24 = .ok (.bipush 6, 2) := by decide +kernel
theorem dX12_types_26 : decode cX12_types 26 = .ok (.ishr, 1) := by decide +kernel
theorem dX12_types_27 : decode cX12_types 27 = .ok (.iconst 3, 1) := by decide +kernel
theorem dX12_types_28 : decode cX12_types 28 = .ok (.invokestatic 61, 3) := by decide +kernel
theorem dX12_types_31 : decode cX12_types 31 = .ok (.iload_n 2, 1) := by decide +kernel
theorem dX12_types_32 : decode cX12_types 32 = .ok (.imul, 1) := by decide +kernel
theorem dX12_types_33 : decode cX12_types 33 = .ok (.isub, 1) := by decide +kernel
theorem dX12_types_34 : decode cX12_types 34 = .ok (.istore 4, 2) := by decide +kernel
theorem dX12_types_36 : decode cX12_types 36 = .ok (.aload_n 0, 1) := by decide +kernel
theorem dX12_types_37 : decode cX12_types 37 = .ok (.invokevirtual 66, 3) := by decide +kernel
theorem dX12_types_40 : decode cX12_types 40 = .ok (.pop, 1) := by decide +kernel
theorem dX12_types_41 : decode cX12_types 41 = .ok (.iconst 0, 1) := by decide +kernel
theorem dX12_types_42 : decode cX12_types 42 = .ok (.istore 5, 2) := by decide +kernel
theorem dX12_types_44 : decode cX12_types 44 = .ok (.iload 5, 2) := by decide +kernel
theorem dX12_types_46 : decode cX12_types 46 = .ok (.iconst 4, 1) := by decide +kernel
theorem dX12_types_47 : decode cX12_types 47 = .ok (.if_icmp .ge 60, 3) := by decide +kernel
theorem dX12_types_50 : decode cX12_types 50 = .ok (.aload_n 0, 1) := by decide +kernel
theorem dX12_types_51 : decode cX12_types 51 = .ok (.bipush 48, 2) := by decide +kernel
theorem dX12_types_53 : decode cX12_types 53 = .ok (.iload 5, 2) := by decide +kernel
theorem dX12_types_55 : decode cX12_types 55 = .ok (.iconst 1, 1) := by decide +kernel
theorem dX12_types_56 : decode cX12_types 56 = .ok (.if_icmp .eq 9, 3) := by decide +kernel
theorem dX12_types_59 : decode cX12_types 59 = .ok (.iload 5, 2) := by decide +kernel
theorem dX12_types_61 : decode cX12_types 61 = .ok (.iconst 2, 1) := by decide +kernel
theorem dX12_types_62 : decode cX12_types 62 = .ok (.if_icmp .ne 7, 3) := by decide +kernel
theorem dX12_types_65 : decode cX12_types 65 = .ok (.iload_n 2, 1) := by decide +kernel
theorem dX12_types_66 : decode cX12_types 66 = .ok (.goto 4, 3) := by decide +kernel
theorem dX12_types_69 : decode cX12_types 69 = .ok (.iconst 0, 1) := by decide +kernel
theorem dX12_types_70 : decode cX12_types 70 = .ok (.iadd, 1) := by decide +kernel
theorem dX12_types_71 : decode cX12_types 71 = .ok (.invokevirtual 69, 3) := by decide +kernel
theorem dX12_types_74 : decode cX12_types 74 = .ok (.pop, 1) := by decide +kernel
theorem dX12_types_75 : decode cX12_types 75 = .ok (.aload_n 0, 1) := by decide +kernel
theorem dX12_types_76 : decode cX12_types 76 = .ok (.bipush 44, 2) := by decide +kernel
theorem dX12_types_78 : decode cX12_types 78 = .ok (.invokevirtual 69, 3) := by decide +kernel
theorem dX12_types_81 : decode cX12_types 81 = .ok (.pop, 1) := by decide +kernel
theorem dX12_types_82 : decode cX12_types 82 = .ok (.aload_n 0, 1) := by decide +kernel
theorem dX12_types_83 : decode cX12_types 83 = .ok (.bipush 48, 2) := by decide +kernel
theorem dX12_types_85 : decode cX12_types 85 = .ok (.iload 5, 2) := by decide +kernel
theorem dX12_types_87 : decode cX12_types 87 = .ok (.iconst 1, 1) := by decide +kernel
theorem dX12_types_88 : decode cX12_types 88 = .ok (.if_icmp .le 7, 3) := by decide +kernel
theorem dX12_types_91 : decode cX12_types 91 = .ok (.iload_n 3, 1) := by decide +kernel
theorem dX12_types_92 : decode cX12_types 92 = .ok (.goto 4, 3) := by decide +kernel
theorem dX12_types_95 : decode cX12_types 95 = .ok (.iconst 0, 1) := by decide +kernel
theorem dX12_types_96 : decode cX12_types 96 = .ok (.iadd, 1) := by decide +kernel
theorem dX12_types_97 : decode cX12_types 97 = .ok (.invokevirtual 69, 3) := by decide +kernel
theorem dX12_types_100 : decode cX12_types 100 = .ok (.pop, 1) := by decide +kernel
theorem dX12_types_101 : decode cX12_types 101 = .ok (.iinc 5 1, 3) := by decide +kernel
theorem dX12_types_104 : decode cX12_types 104 = .ok (.goto (-60), 3) := by decide +kernel
theorem dX12_types_107 : decode cX12_types 107 = .ok (.aload_n 0, 1) := by decide +kernel
theorem dX12_types_108 : decode cX12_types 108 = .ok (.bipush 59, 2) := by decide +kernel
theorem dX12_types_110 : decode cX12_types 110 = .ok (.invokevirtual 69, 3) := by decide +kernel
theorem dX12_types_113 : decode cX12_types 113 = .ok (.pop, 1) := by decide +kernel
theorem dX12_types_114 : decode cX12_types 114 = .ok (.iconst 0, 1) := by decide +kernel
theorem dX12_types_115 : decode cX12_types 115 = .ok (.istore 5, 2) := by decide +kernel
theorem dX12_types_117 : decode cX12_types 117 = .ok (.iload 5, 2) := by decide +kernel
theorem dX12_types_119 : decode cX12_types 119 = .ok (.iconst 3, 1) := by decide +kernel
theorem dX12_types_120 : decode cX12_types 120 = .ok (.if_icmp .ge 76, 3) := by decide +kernel
theorem dX12_types_123 : decode cX12_types 123 = .ok (.iload_n 1, 1) := by decide +kernel
theorem dX12_types_124 : decode cX12_types 124 = .ok (.bipush 9, 2) := by decide +kernel
theorem dX12_types_126 : decode cX12_types 126 = .ok (.ishr, 1) := by decide +kernel
theorem dX12_types_127 : decode cX12_types 127 = .ok (.iconst 1, 1) := by decide +kernel
theorem dX12_types_128 : decode cX12_types 128 = .ok (.iand, 1) := by decide +kernel
theorem dX12_types_129 : decode cX12_types 129 = .ok (.ifCond .ne 67, 3) := by decide +kernel
theorem dX12_types_132 : decode cX12_types 132 = .ok (.iload 4, 2) := by decide +kernel
theorem dX12_types_134 : decode cX12_types 134 = .ok (.iconst 2, 1) := by decide +kernel
theorem dX12_types_135 : decode cX12_types 135 = .ok (.iadd, 1) := by decide +kernel
theorem dX12_types_136 : decode cX12_types 136 = .ok (.bipush 10, 2) := by decide +kernel
theorem dX12_types_138 : decode cX12_types 138 = .ok (.if_icmp .ge 58, 3) := by decide +kernel
theorem dX12_types_141 : decode cX12_types 141 = .ok (.aload_n 0, 1) := by decide +kernel
theorem dX12_types_142 : decode cX12_types 142 = .ok (.bipush 48, 2) := by decide +kernel
theorem dX12_types_144 : decode cX12_types 144 = .ok (.iload 5, 2) := by decide +kernel
theorem dX12_types_146 : decode cX12_types 146 = .ok (.iconst 1, 1) := by decide +kernel
theorem dX12_types_147 : decode cX12_types 147 = .ok (.if_icmp .ne 10, 3) := by decide +kernel
theorem dX12_types_150 : decode cX12_types 150 = .ok (.iload 4, 2) := by decide +kernel
theorem dX12_types_152 : decode cX12_types 152 = .ok (.iconst 2, 1) := by decide +kernel
theorem dX12_types_153 : decode cX12_types 153 = .ok (.iadd, 1) := by decide +kernel
theorem dX12_types_154 : decode cX12_types 154 = .ok (.goto 5, 3) := by decide +kernel
theorem dX12_types_157 : decode cX12_types 157 = .ok (.iload 4, 2) := by decide +kernel
theorem dX12_types_159 : decode cX12_types 159 = .ok (.iadd, 1) := by decide +kernel
theorem dX12_types_160 : decode cX12_types 160 = .ok (.invokevirtual 69, 3) := by decide +kernel
theorem dX12_types_163 : decode cX12_types 163 = .ok (.pop, 1) := by decide +kernel
theorem dX12_types_164 : decode cX12_types 164 = .ok (.aload_n 0, 1) := by decide +kernel
theorem dX12_types_165 : decode cX12_types 165 = .ok (.bipush 44, 2) := by decide +kernel
theorem dX12_types_167 : decode cX12_types 167 = .ok (.invokevirtual 69, 3) := by decide +kernel
theorem dX12_types_170 : decode cX12_types 170 = .ok (.pop, 1) := by decide +kernel
theorem dX12_types_171 : decode cX12_types 171 = .ok (.aload_n 0, 1) := by decide +kernel
theorem dX12_types_172 : decode cX12_types 172 = .ok (.bipush 48, 2) := by decide +kernel
theorem dX12_types_174 : decode cX12_types 174 = .ok (.iload 5, 2) := by decide +kernel
theorem dX12_types_176 : decode cX12_types 176 = .ok (.iconst 2, 1) := by decide +kernel
theorem dX12_types_177 : decode cX12_types 177 = .ok (.if_icmp .ne 7, 3) := by decide +kernel
theorem dX12_types_180 : decode cX12_types 180 = .ok (.iconst 3, 1) := by decide +kernel
theorem dX12_types_181 : decode cX12_types 181 = .ok (.goto 4, 3) := by decide +kernel
theorem dX12_types_184 : decode cX12_types 184 = .ok (.iconst 0, 1) := by decide +kernel
theorem dX12_types_185 : decode cX12_types 185 = .ok (.iadd, 1) := by decide +kernel
theorem dX12_types_186 : decode cX12_types 186 = .ok (.invokevirtual 69, 3) := by decide +kernel
theorem dX12_types_189 : decode cX12_types 189 = .ok (.pop, 1) := by decide +kernel
theorem dX12_types_190 : decode cX12_types 190 = .ok (.iinc 5 1, 3) := by decide +kernel
theorem dX12_types_193 : decode cX12_types 193 = .ok (.goto (-76), 3) := by decide +kernel
theorem dX12_types_196 : decode cX12_types 196 = .ok (.iload_n 1, 1) := by decide +kernel
theorem dX12_types_197 : decode cX12_types 197 = .ok (.bipush 9, 2) := by decide +kernel
theorem dX12_types_199 : decode cX12_types 199 = .ok (.ishr, 1) := by decide +kernel
theorem dX12_types_200 : decode cX12_types 200 = .ok (.iconst 1, 1) := by decide +kernel
theorem dX12_types_201 : decode cX12_types 201 = .ok (.iand, 1) := by decide +kernel
theorem dX12_types_202 : decode cX12_types 202 = .ok (.ifCond .ne 19, 3) := by decide +kernel
theorem dX12_types_205 : decode cX12_types 205 = .ok (.iload 4, 2) := by decide +kernel
theorem dX12_types_207 : decode cX12_types 207 = .ok (.iconst 2, 1) := by decide +kernel
theorem dX12_types_208 : decode cX12_types 208 = .ok (.iadd, 1) := by decide +kernel
theorem dX12_types_209 : decode cX12_types 209 = .ok (.bipush 10, 2) := by decide +kernel
theorem dX12_types_211 : decode cX12_types 211 = .ok (.if_icmp .ge 10, 3) := by decide +kernel
theorem dX12_types_214 : decode cX12_types 214 = .ok (.aload_n 0, 1) := by decide +kernel
theorem dX12_types_215 : decode cX12_types 215 = .ok (.bipush 59, 2) := by decide +kernel
theorem dX12_types_217 : decode cX12_types 217 = .ok (.invokevirtual 69, 3) := by decide +kernel
theorem dX12_types_220 : decode cX12_types 220 = .ok (.pop, 1) := by decide +kernel
theorem dX12_types_221 : decode cX12_types 221 = .ok (.iload_n 1, 1) := by decide +kernel
theorem dX12_types_222 : decode cX12_types 222 = .ok (.bipush 10, 2) := by decide +kernel
theorem dX12_types_224 : decode cX12_types 224 = .ok (.ishr, 1) := by decide +kernel
theorem dX12_types_225 : decode cX12_types 225 = .ok (.bipush 7, 2) := by decide +kernel
theorem dX12_types_227 : decode cX12_types 227 = .ok (.iand, 1) := by decide +kernel
theorem dX12_types_228 : decode cX12_types 228 = .ok (.ifCond .ne 10, 3) := by decide +kernel
theorem dX12_types_231 : decode cX12_types 231 = .ok (.aload_n 0, 1) := by decide +kernel
theorem dX12_types_232 : decode cX12_types 232 = .ok (.bipush 55, 2) := by decide +kernel
theorem dX12_types_234 : decode cX12_types 234 = .ok (.invokevirtual 69, 3) := by decide +kernel
theorem dX12_types_237 : decode cX12_types 237 = .ok (.pop, 1) := by decide +kernel
theorem dX12_types_238 : decode cX12_types 238 = .ok (.return_, 1) := by decide +kernel
abbrev rmX12_types : Room := { frames := 2, cells := 0, slots := 0, locals := 80 }
abbrev sX12_types (E : EV) : List AV → AH → (Option AV → AH → Prop) → Prop := Spec E yX12_types cX12_types 6 none rmX12_types
theorem mX12_types : Mt yX12_types cX12_types 6 none 2 := ⟨k669, k0, by decide +kernel⟩
theorem vX12_types : MtS yX12_types := k668
def PX12_types_221 (E : EV) (post : Option AV → AH → Prop) (h : AH) (l0 : Option Nat) (l1 : Int32) : Prop :=
  (¬ ((l1 >>> ((10 : Int32) &&& 31)) &&& (7 : Int32)) = 0 → post none h) ∧ (((l1 >>> ((10 : Int32) &&& 31)) &&& (7 : Int32)) = 0 → CV (sX10_appendCharacter E) l0 10 [aI (55 : Int32)] h (kI fun x1 h2 => post none h2))
theorem bX12_types_221 {E : EV} {X : AX} {post : Option AV → AH → Prop} (C : Cb E X cX12_types RX12 6 rmX12_types) (D : Cr E X none rmX12_types "types" post) {h : AH} {l0 : Option Nat} {l1 : Int32} (w : PX12_types_221 E post h l0 l1) : Go E X 6 0 0 221 [(0, aP l0), (1, aI l1)] [] h := by
  unfold PX12_types_221 at w
  refine r_iload_n C dX12_types_221 rfl 1 rfl ?_
  refine r_bipush (v := 10) C dX12_types_222 rfl ?_
  refine r_ishr C dX12_types_224 ?_
  refine r_bipush (v := 7) C dX12_types_225 rfl ?_
  refine r_iand C dX12_types_227 ?_
  refine r_if_ne C dX12_types_228 (tgt := 238) rfl (fun hc => ?_) (fun hc => ?_)
  · have w := w.1 hc
    exact r_vret C D rfl (Nat.zero_le _) (Nat.zero_le _) dX12_types_238 w
  · have w := w.2 hc
    refine r_aload_n C dX12_types_231 rfl 0 rfl ?_
    refine r_bipush (v := 55) C dX12_types_232 rfl ?_
    refine r_cvI (rm' := rmX10_appendCharacter) C mX10_appendCharacter vX10_appendCharacter k678 [aI (55 : Int32)] [] rfl rfl (Nat.le_of_ble_eq_true rfl) (by decide) ⟨Nat.zero_le _, Nat.zero_le _⟩ 0 0 rfl rfl dX12_types_234 w (fun x1 h2 w => ?_)
    refine r_pop C dX12_types_237 rfl ?_
    exact r_vret C D rfl (Nat.zero_le _) (Nat.zero_le _) dX12_types_238 w
def PX12_types_196 (E : EV) (post : Option AV → AH → Prop) (h : AH) (l0 : Option Nat) (l1 : Int32) (l4 : Int32) : Prop :=
  (¬ ((l1 >>> ((9 : Int32) &&& 31)) &&& (1 : Int32)) = 0 → PX12_types_221 E post h l0 l1) ∧ (((l1 >>> ((9 : Int32) &&& 31)) &&& (1 : Int32)) = 0 → ((10 : Int32) ≤ (l4 + (2 : Int32)) → PX12_types_221 E post h l0 l1) ∧ (¬ (10 : Int32) ≤ (l4 + (2 : Int32)) → CV (sX10_appendCharacter E) l0 10 [aI (59 : Int32)] h (kI fun x1 h2 => PX12_types_221 E post h2 l0 l1)))
theorem bX12_types_196 {E : EV} {X : AX} {post : Option AV → AH → Prop} (C : Cb E X cX12_types RX12 6 rmX12_types) (D : Cr E X none rmX12_types "types" post) {h : AH} {l0 : Option Nat} {l1 : Int32} {l4 : Int32} (w : PX12_types_196 E post h l0 l1 l4) : Go E X 6 0 0 196 [(0, aP l0), (1, aI l1), (4, aI l4)] [] h := by
  unfold PX12_types_196 at w
  refine r_iload_n C dX12_types_196 rfl 1 rfl ?_
  refine r_bipush (v := 9) C dX12_types_197 rfl ?_
  refine r_ishr C dX12_types_199 ?_
  refine r_iconst (v := 1) C dX12_types_200 rfl ?_
  refine r_iand C dX12_types_201 ?_
  refine r_if_ne C dX12_types_202 (tgt := 221) rfl (fun hc => ?_) (fun hc => ?_)
  · have w := w.1 hc
    exact r_sub [0, 1] rfl (bX12_types_221 C D w)
  · have w := w.2 hc
    refine r_iload C dX12_types_205 2 rfl ?_
    refine r_iconst (v := 2) C dX12_types_207 rfl ?_
    refine r_iadd C dX12_types_208 ?_
    refine r_bipush (v := 10) C dX12_types_209 rfl ?_
    refine r_icmp_ge C dX12_types_211 (tgt := 221) rfl (fun hc => ?_) (fun hc => ?_)
    · have w := w.1 hc
      exact r_sub [0, 1] rfl (bX12_types_221 C D w)
    · have w := w.2 hc
      refine r_aload_n C dX12_types_214 rfl 0 rfl ?_
      refine r_bipush (v := 59) C dX12_types_215 rfl ?_
      refine r_cvI (rm' := rmX10_appendCharacter) C mX10_appendCharacter vX10_appendCharacter k678 [aI (59 : Int32)] [] rfl rfl (Nat.le_of_ble_eq_true rfl) (by decide) ⟨Nat.zero_le _, Nat.zero_le _⟩ 0 0 rfl rfl dX12_types_217 w (fun x1 h2 w => ?_)
      refine r_pop C dX12_types_220 rfl ?_
      exact r_sub [0, 1] rfl (bX12_types_221 C D w)
def PX12_types_185 (E : EV) (post : Option AV → AH → Prop) (J117 : AH → Option Nat → Int32 → Int32 → Int32 → Prop) (h : AH) (l0 : Option Nat) (l1 : Int32) (l4 : Int32) (l5 : Int32) (s0 : Option Nat) (s1 : Int32) (s2 : Int32) : Prop :=
  CV (sX10_appendCharacter E) s0 10 [aI (s1 + s2)] h (kI fun x1 h2 => J117 h2 l0 l1 l4 (l5 + (1 : Int32)))
theorem bX12_types_185 {E : EV} {X : AX} {post : Option AV → AH → Prop} (C : Cb E X cX12_types RX12 6 rmX12_types) (D : Cr E X none rmX12_types "types" post) {J117 : AH → Option Nat → Int32 → Int32 → Int32 → Prop} (g117 : ∀ (h : AH) (l0 : Option Nat) (l1 : Int32) (l4 : Int32) (l5 : Int32), J117 h l0 l1 l4 l5 → Go E X 6 0 0 117 [(0, aP l0), (1, aI l1), (4, aI l4), (5, aI l5)] [] h) {h : AH} {l0 : Option Nat} {l1 : Int32} {l4 : Int32} {l5 : Int32} {s0 : Option Nat} {s1 : Int32} {s2 : Int32} (w : PX12_types_185 E post J117 h l0 l1 l4 l5 s0 s1 s2) : Go E X 6 0 0 185 [(0, aP l0), (1, aI l1), (4, aI l4), (5, aI l5)] [aI s2, aI s1, aP s0] h := by
  unfold PX12_types_185 at w
  refine r_iadd C dX12_types_185 ?_
  refine r_cvI (rm' := rmX10_appendCharacter) C mX10_appendCharacter vX10_appendCharacter k678 [aI (s1 + s2)] [] rfl rfl (Nat.le_of_ble_eq_true rfl) (by decide) ⟨Nat.zero_le _, Nat.zero_le _⟩ 0 0 rfl rfl dX12_types_186 w (fun x1 h2 w => ?_)
  refine r_pop C dX12_types_189 rfl ?_
  refine r_iinc C dX12_types_190 3 rfl (v := 1) rfl (by decide) rfl ?_
  refine r_goto C dX12_types_193 (tgt := 117) rfl ?_
  exact r_sub [1, 2, 3, 0] rfl (g117 h2 l0 l1 l4 (l5 + (1 : Int32)) w)
def PX12_types_159 (E : EV) (post : Option AV → AH → Prop) (J117 : AH → Option Nat → Int32 → Int32 → Int32 → Prop) (h : AH) (l0 : Option Nat) (l1 : Int32) (l4 : Int32) (l5 : Int32) (s0 : Option Nat) (s1 : Int32) (s2 : Int32) : Prop :=
  CV (sX10_appendCharacter E) s0 10 [aI (s1 + s2)] h (kI fun x1 h2 => CV (sX10_appendCharacter E) l0 10 [aI (44 : Int32)] h2 (kI fun x3 h4 => (¬ l5 = (2 : Int32) → PX12_types_185 E post J117 h4 l0 l1 l4 l5 l0 (48 : Int32) (0 : Int32)) ∧ (l5 = (2 : Int32) → PX12_types_185 E post J117 h4 l0 l1 l4 l5 l0 (48 : Int32) (3 : Int32))))
theorem bX12_types_159 {E : EV} {X : AX} {post : Option AV → AH → Prop} (C : Cb E X cX12_types RX12 6 rmX12_types) (D : Cr E X none rmX12_types "types" post) {J117 : AH → Option Nat → Int32 → Int32 → Int32 → Prop} (g117 : ∀ (h : AH) (l0 : Option Nat) (l1 : Int32) (l4 : Int32) (l5 : Int32), J117 h l0 l1 l4 l5 → Go E X 6 0 0 117 [(0, aP l0), (1, aI l1), (4, aI l4), (5, aI l5)] [] h) {h : AH} {l0 : Option Nat} {l1 : Int32} {l4 : Int32} {l5 : Int32} {s0 : Option Nat} {s1 : Int32} {s2 : Int32} (w : PX12_types_159 E post J117 h l0 l1 l4 l5 s0 s1 s2) : Go E X 6 0 0 159 [(0, aP l0), (1, aI l1), (4, aI l4), (5, aI l5)] [aI s2, aI s1, aP s0] h := by
  unfold PX12_types_159 at w
  refine r_iadd C dX12_types_159 ?_
  refine r_cvI (rm' := rmX10_appendCharacter) C mX10_appendCharacter vX10_appendCharacter k678 [aI (s1 + s2)] [] rfl rfl (Nat.le_of_ble_eq_true rfl) (by decide) ⟨Nat.zero_le _, Nat.zero_le _⟩ 0 0 rfl rfl dX12_types_160 w (fun x1 h2 w => ?_)
  refine r_pop C dX12_types_163 rfl ?_
  refine r_aload_n C dX12_types_164 rfl 0 rfl ?_
  refine r_bipush (v := 44) C dX12_types_165 rfl ?_
  refine r_cvI (rm' := rmX10_appendCharacter) C mX10_appendCharacter vX10_appendCharacter k678 [aI (44 : Int32)] [] rfl rfl (Nat.le_of_ble_eq_true rfl) (by decide) ⟨Nat.zero_le _, Nat.zero_le _⟩ 0 0 rfl rfl dX12_types_167 w (fun x3 h4 w => ?_)
  refine r_pop C dX12_types_170 rfl ?_
  refine r_aload_n C dX12_types_171 rfl 0 rfl ?_
  refine r_bipush (v := 48) C dX12_types_172 rfl ?_
  refine r_iload C dX12_types_174 3 rfl ?_
  refine r_iconst (v := 2) C dX12_types_176 rfl ?_
  refine r_icmp_ne C dX12_types_177 (tgt := 184) rfl (fun hc => ?_) (fun hc => ?_)
  · have w := w.1 hc
    refine r_iconst (v := 0) C dX12_types_184 rfl ?_
    exact (bX12_types_185 C D g117 w)
  · have w := w.2 hc
    refine r_iconst (v := 3) C dX12_types_180 rfl ?_
    refine r_goto C dX12_types_181 (tgt := 185) rfl ?_
    exact (bX12_types_185 C D g117 w)
def PX12_types_117 (E : EV) (post : Option AV → AH → Prop) (J117 : AH → Option Nat → Int32 → Int32 → Int32 → Prop) (h : AH) (l0 : Option Nat) (l1 : Int32) (l4 : Int32) (l5 : Int32) : Prop :=
  ((3 : Int32) ≤ l5 → PX12_types_196 E post h l0 l1 l4) ∧ (¬ (3 : Int32) ≤ l5 → (¬ ((l1 >>> ((9 : Int32) &&& 31)) &&& (1 : Int32)) = 0 → PX12_types_196 E post h l0 l1 l4) ∧ (((l1 >>> ((9 : Int32) &&& 31)) &&& (1 : Int32)) = 0 → ((10 : Int32) ≤ (l4 + (2 : Int32)) → PX12_types_196 E post h l0 l1 l4) ∧ (¬ (10 : Int32) ≤ (l4 + (2 : Int32)) → (¬ l5 = (1 : Int32) → PX12_types_159 E post J117 h l0 l1 l4 l5 l0 (48 : Int32) l4) ∧ (l5 = (1 : Int32) → PX12_types_159 E post J117 h l0 l1 l4 l5 l0 (48 : Int32) (l4 + (2 : Int32))))))
theorem bX12_types_117 {E : EV} {X : AX} {post : Option AV → AH → Prop} (C : Cb E X cX12_types RX12 6 rmX12_types) (D : Cr E X none rmX12_types "types" post) {J117 : AH → Option Nat → Int32 → Int32 → Int32 → Prop} (g117 : ∀ (h : AH) (l0 : Option Nat) (l1 : Int32) (l4 : Int32) (l5 : Int32), J117 h l0 l1 l4 l5 → Go E X 6 0 0 117 [(0, aP l0), (1, aI l1), (4, aI l4), (5, aI l5)] [] h) {h : AH} {l0 : Option Nat} {l1 : Int32} {l4 : Int32} {l5 : Int32} (w : PX12_types_117 E post J117 h l0 l1 l4 l5) : Go E X 6 0 0 117 [(0, aP l0), (1, aI l1), (4, aI l4), (5, aI l5)] [] h := by
  unfold PX12_types_117 at w
  refine r_iload C dX12_types_117 3 rfl ?_
  refine r_iconst (v := 3) C dX12_types_119 rfl ?_
  refine r_icmp_ge C dX12_types_120 (tgt := 196) rfl (fun hc => ?_) (fun hc => ?_)
  · have w := w.1 hc
    exact r_sub [0, 1, 2] rfl (bX12_types_196 C D w)
  · have w := w.2 hc
    refine r_iload_n C dX12_types_123 rfl 1 rfl ?_
    refine r_bipush (v := 9) C dX12_types_124 rfl ?_
    refine r_ishr C dX12_types_126 ?_
    refine r_iconst (v := 1) C dX12_types_127 rfl ?_
    refine r_iand C dX12_types_128 ?_
    refine r_if_ne C dX12_types_129 (tgt := 196) rfl (fun hc => ?_) (fun hc => ?_)
    · have w := w.1 hc
      exact r_sub [0, 1, 2] rfl (bX12_types_196 C D w)
    · have w := w.2 hc
      refine r_iload C dX12_types_132 2 rfl ?_
      refine r_iconst (v := 2) C dX12_types_134 rfl ?_
      refine r_iadd C dX12_types_135 ?_
      refine r_bipush (v := 10) C dX12_types_136 rfl ?_
      refine r_icmp_ge C dX12_types_138 (tgt := 196) rfl (fun hc => ?_) (fun hc => ?_)
      · have w := w.1 hc
        exact r_sub [0, 1, 2] rfl (bX12_types_196 C D w)
      · have w := w.2 hc
        refine r_aload_n C dX12_types_141 rfl 0 rfl ?_
        refine r_bipush (v := 48) C dX12_types_142 rfl ?_
        refine r_iload C dX12_types_144 3 rfl ?_
        refine r_iconst (v := 1) C dX12_types_146 rfl ?_
        refine r_icmp_ne C dX12_types_147 (tgt := 157) rfl (fun hc => ?_) (fun hc => ?_)
        · have w := w.1 hc
          refine r_iload C dX12_types_157 2 rfl ?_
          exact (bX12_types_159 C D g117 w)
        · have w := w.2 hc
          refine r_iload C dX12_types_150 2 rfl ?_
          refine r_iconst (v := 2) C dX12_types_152 rfl ?_
          refine r_iadd C dX12_types_153 ?_
          refine r_goto C dX12_types_154 (tgt := 159) rfl ?_
          exact (bX12_types_159 C D g117 w)
theorem lpX12_types_117 {E : EV} {X : AX} {post : Option AV → AH → Prop} (C : Cb E X cX12_types RX12 6 rmX12_types) (D : Cr E X none rmX12_types "types" post) (I : Nat → AH → Option Nat → Int32 → Int32 → Int32 → Prop) (step : ∀ (z : Nat) (h : AH) (l0 : Option Nat) (l1 : Int32) (l4 : Int32) (l5 : Int32), I z h l0 l1 l4 l5 → PX12_types_117 E post (fun h l0 l1 l4 l5 => ∃ z', z' < z ∧ I z' h l0 l1 l4 l5) h l0 l1 l4 l5) : ∀ (z : Nat) (h : AH) (l0 : Option Nat) (l1 : Int32) (l4 : Int32) (l5 : Int32), I z h l0 l1 l4 l5 → Go E X 6 0 0 117 [(0, aP l0), (1, aI l1), (4, aI l4), (5, aI l5)] [] h := by
  intro z
  induction z using Nat.strongRecOn with
  | _ z ih =>
    intro h l0 l1 l4 l5 hI
    exact bX12_types_117 C D (fun h l0 l1 l4 l5 hJ => by obtain ⟨z', hz, hi⟩ := hJ; exact ih z' hz h l0 l1 l4 l5 hi) (step z h l0 l1 l4 l5 hI)
def PX12_types_96 (E : EV) (post : Option AV → AH → Prop) (J44 : AH → Option Nat → Int32 → Int32 → Int32 → Int32 → Int32 → Prop) (h : AH) (l0 : Option Nat) (l1 : Int32) (l2 : Int32) (l3 : Int32) (l4 : Int32) (l5 : Int32) (s0 : Option Nat) (s1 : Int32) (s2 : Int32) : Prop :=
  CV (sX10_appendCharacter E) s0 10 [aI (s1 + s2)] h (kI fun x1 h2 => J44 h2 l0 l1 l2 l3 l4 (l5 + (1 : Int32)))
theorem bX12_types_96 {E : EV} {X : AX} {post : Option AV → AH → Prop} (C : Cb E X cX12_types RX12 6 rmX12_types) (D : Cr E X none rmX12_types "types" post) {J44 : AH → Option Nat → Int32 → Int32 → Int32 → Int32 → Int32 → Prop} (g44 : ∀ (h : AH) (l0 : Option Nat) (l1 : Int32) (l2 : Int32) (l3 : Int32) (l4 : Int32) (l5 : Int32), J44 h l0 l1 l2 l3 l4 l5 → Go E X 6 0 0 44 [(0, aP l0), (1, aI l1), (2, aI l2), (3, aI l3), (4, aI l4), (5, aI l5)] [] h) {h : AH} {l0 : Option Nat} {l1 : Int32} {l2 : Int32} {l3 : Int32} {l4 : Int32} {l5 : Int32} {s0 : Option Nat} {s1 : Int32} {s2 : Int32} (w : PX12_types_96 E post J44 h l0 l1 l2 l3 l4 l5 s0 s1 s2) : Go E X 6 0 0 96 [(0, aP l0), (1, aI l1), (2, aI l2), (3, aI l3), (4, aI l4), (5, aI l5)] [aI s2, aI s1, aP s0] h := by
  unfold PX12_types_96 at w
  refine r_iadd C dX12_types_96 ?_
  refine r_cvI (rm' := rmX10_appendCharacter) C mX10_appendCharacter vX10_appendCharacter k678 [aI (s1 + s2)] [] rfl rfl (Nat.le_of_ble_eq_true rfl) (by decide) ⟨Nat.zero_le _, Nat.zero_le _⟩ 0 0 rfl rfl dX12_types_97 w (fun x1 h2 w => ?_)
  refine r_pop C dX12_types_100 rfl ?_
  refine r_iinc C dX12_types_101 5 rfl (v := 1) rfl (by decide) rfl ?_
  refine r_goto C dX12_types_104 (tgt := 44) rfl ?_
  exact r_sub [1, 2, 3, 4, 5, 0] rfl (g44 h2 l0 l1 l2 l3 l4 (l5 + (1 : Int32)) w)
def PX12_types_70 (E : EV) (post : Option AV → AH → Prop) (J44 : AH → Option Nat → Int32 → Int32 → Int32 → Int32 → Int32 → Prop) (h : AH) (l0 : Option Nat) (l1 : Int32) (l2 : Int32) (l3 : Int32) (l4 : Int32) (l5 : Int32) (s0 : Option Nat) (s1 : Int32) (s2 : Int32) : Prop :=
  CV (sX10_appendCharacter E) s0 10 [aI (s1 + s2)] h (kI fun x1 h2 => CV (sX10_appendCharacter E) l0 10 [aI (44 : Int32)] h2 (kI fun x3 h4 => (l5 ≤ (1 : Int32) → PX12_types_96 E post J44 h4 l0 l1 l2 l3 l4 l5 l0 (48 : Int32) (0 : Int32)) ∧ (¬ l5 ≤ (1 : Int32) → PX12_types_96 E post J44 h4 l0 l1 l2 l3 l4 l5 l0 (48 : Int32) l3)))
theorem bX12_types_70 {E : EV} {X : AX} {post : Option AV → AH → Prop} (C : Cb E X cX12_types RX12 6 rmX12_types) (D : Cr E X none rmX12_types "types" post) {J44 : AH → Option Nat → Int32 → Int32 → Int32 → Int32 → Int32 → Prop} (g44 : ∀ (h : AH) (l0 : Option Nat) (l1 : Int32) (l2 : Int32) (l3 : Int32) (l4 : Int32) (l5 : Int32), J44 h l0 l1 l2 l3 l4 l5 → Go E X 6 0 0 44 [(0, aP l0), (1, aI l1), (2, aI l2), (3, aI l3), (4, aI l4), (5, aI l5)] [] h) {h : AH} {l0 : Option Nat} {l1 : Int32} {l2 : Int32} {l3 : Int32} {l4 : Int32} {l5 : Int32} {s0 : Option Nat} {s1 : Int32} {s2 : Int32} (w : PX12_types_70 E post J44 h l0 l1 l2 l3 l4 l5 s0 s1 s2) : Go E X 6 0 0 70 [(0, aP l0), (1, aI l1), (2, aI l2), (3, aI l3), (4, aI l4), (5, aI l5)] [aI s2, aI s1, aP s0] h := by
  unfold PX12_types_70 at w
  refine r_iadd C dX12_types_70 ?_
  refine r_cvI (rm' := rmX10_appendCharacter) C mX10_appendCharacter vX10_appendCharacter k678 [aI (s1 + s2)] [] rfl rfl (Nat.le_of_ble_eq_true rfl) (by decide) ⟨Nat.zero_le _, Nat.zero_le _⟩ 0 0 rfl rfl dX12_types_71 w (fun x1 h2 w => ?_)
  refine r_pop C dX12_types_74 rfl ?_
  refine r_aload_n C dX12_types_75 rfl 0 rfl ?_
  refine r_bipush (v := 44) C dX12_types_76 rfl ?_
  refine r_cvI (rm' := rmX10_appendCharacter) C mX10_appendCharacter vX10_appendCharacter k678 [aI (44 : Int32)] [] rfl rfl (Nat.le_of_ble_eq_true rfl) (by decide) ⟨Nat.zero_le _, Nat.zero_le _⟩ 0 0 rfl rfl dX12_types_78 w (fun x3 h4 w => ?_)
  refine r_pop C dX12_types_81 rfl ?_
  refine r_aload_n C dX12_types_82 rfl 0 rfl ?_
  refine r_bipush (v := 48) C dX12_types_83 rfl ?_
  refine r_iload C dX12_types_85 5 rfl ?_
  refine r_iconst (v := 1) C dX12_types_87 rfl ?_
  refine r_icmp_le C dX12_types_88 (tgt := 95) rfl (fun hc => ?_) (fun hc => ?_)
  · have w := w.1 hc
    refine r_iconst (v := 0) C dX12_types_95 rfl ?_
    exact (bX12_types_96 C D g44 w)
  · have w := w.2 hc
    refine r_iload_n C dX12_types_91 rfl 3 rfl ?_
    refine r_goto C dX12_types_92 (tgt := 96) rfl ?_
    exact (bX12_types_96 C D g44 w)
def PX12_types_65 (E : EV) (post : Option AV → AH → Prop) (J44 : AH → Option Nat → Int32 → Int32 → Int32 → Int32 → Int32 → Prop) (h : AH) (l0 : Option Nat) (l1 : Int32) (l2 : Int32) (l3 : Int32) (l4 : Int32) (l5 : Int32) (s0 : Option Nat) (s1 : Int32) : Prop :=
  PX12_types_70 E post J44 h l0 l1 l2 l3 l4 l5 s0 s1 l2
theorem bX12_types_65 {E : EV} {X : AX} {post : Option AV → AH → Prop} (C : Cb E X cX12_types RX12 6 rmX12_types) (D : Cr E X none rmX12_types "types" post) {J44 : AH → Option Nat → Int32 → Int32 → Int32 → Int32 → Int32 → Prop} (g44 : ∀ (h : AH) (l0 : Option Nat) (l1 : Int32) (l2 : Int32) (l3 : Int32) (l4 : Int32) (l5 : Int32), J44 h l0 l1 l2 l3 l4 l5 → Go E X 6 0 0 44 [(0, aP l0), (1, aI l1), (2, aI l2), (3, aI l3), (4, aI l4), (5, aI l5)] [] h) {h : AH} {l0 : Option Nat} {l1 : Int32} {l2 : Int32} {l3 : Int32} {l4 : Int32} {l5 : Int32} {s0 : Option Nat} {s1 : Int32} (w : PX12_types_65 E post J44 h l0 l1 l2 l3 l4 l5 s0 s1) : Go E X 6 0 0 65 [(0, aP l0), (1, aI l1), (2, aI l2), (3, aI l3), (4, aI l4), (5, aI l5)] [aI s1, aP s0] h := by
  unfold PX12_types_65 at w
  refine r_iload_n C dX12_types_65 rfl 2 rfl ?_
  refine r_goto C dX12_types_66 (tgt := 70) rfl ?_
  exact (bX12_types_70 C D g44 w)
def PX12_types_44 (E : EV) (post : Option AV → AH → Prop) (J44 : AH → Option Nat → Int32 → Int32 → Int32 → Int32 → Int32 → Prop) (J117 : AH → Option Nat → Int32 → Int32 → Int32 → Prop) (h : AH) (l0 : Option Nat) (l1 : Int32) (l2 : Int32) (l3 : Int32) (l4 : Int32) (l5 : Int32) : Prop :=
  ((4 : Int32) ≤ l5 → CV (sX10_appendCharacter E) l0 10 [aI (59 : Int32)] h (kI fun x1 h2 => J117 h2 l0 l1 l4 (0 : Int32))) ∧ (¬ (4 : Int32) ≤ l5 → (l5 = (1 : Int32) → PX12_types_65 E post J44 h l0 l1 l2 l3 l4 l5 l0 (48 : Int32)) ∧ (¬ l5 = (1 : Int32) → (¬ l5 = (2 : Int32) → PX12_types_70 E post J44 h l0 l1 l2 l3 l4 l5 l0 (48 : Int32) (0 : Int32)) ∧ (l5 = (2 : Int32) → PX12_types_65 E post J44 h l0 l1 l2 l3 l4 l5 l0 (48 : Int32))))
theorem bX12_types_44 {E : EV} {X : AX} {post : Option AV → AH → Prop} (C : Cb E X cX12_types RX12 6 rmX12_types) (D : Cr E X none rmX12_types "types" post) {J44 : AH → Option Nat → Int32 → Int32 → Int32 → Int32 → Int32 → Prop} (g44 : ∀ (h : AH) (l0 : Option Nat) (l1 : Int32) (l2 : Int32) (l3 : Int32) (l4 : Int32) (l5 : Int32), J44 h l0 l1 l2 l3 l4 l5 → Go E X 6 0 0 44 [(0, aP l0), (1, aI l1), (2, aI l2), (3, aI l3), (4, aI l4), (5, aI l5)] [] h) {J117 : AH → Option Nat → Int32 → Int32 → Int32 → Prop} (g117 : ∀ (h : AH) (l0 : Option Nat) (l1 : Int32) (l4 : Int32) (l5 : Int32), J117 h l0 l1 l4 l5 → Go E X 6 0 0 117 [(0, aP l0), (1, aI l1), (4, aI l4), (5, aI l5)] [] h) {h : AH} {l0 : Option Nat} {l1 : Int32} {l2 : Int32} {l3 : Int32} {l4 : Int32} {l5 : Int32} (w : PX12_types_44 E post J44 J117 h l0 l1 l2 l3 l4 l5) : Go E X 6 0 0 44 [(0, aP l0), (1, aI l1), (2, aI l2), (3, aI l3), (4, aI l4), (5, aI l5)] [] h := by
  unfold PX12_types_44 at w
  refine r_iload C dX12_types_44 5 rfl ?_
  refine r_iconst (v := 4) C dX12_types_46 rfl ?_
  refine r_icmp_ge C dX12_types_47 (tgt := 107) rfl (fun hc => ?_) (fun hc => ?_)
  · have w := w.1 hc
    refine r_aload_n C dX12_types_107 rfl 0 rfl ?_
    refine r_bipush (v := 59) C dX12_types_108 rfl ?_
    refine r_cvI (rm' := rmX10_appendCharacter) C mX10_appendCharacter vX10_appendCharacter k678 [aI (59 : Int32)] [] rfl rfl (Nat.le_of_ble_eq_true rfl) (by decide) ⟨Nat.zero_le _, Nat.zero_le _⟩ 0 0 rfl rfl dX12_types_110 w (fun x1 h2 w => ?_)
    refine r_pop C dX12_types_113 rfl ?_
    refine r_iconst (v := 0) C dX12_types_114 rfl ?_
    refine r_istore C dX12_types_115 (by decide) rfl ?_
    exact r_sub [1, 2, 5, 0] rfl (g117 h2 l0 l1 l4 (0 : Int32) w)
  · have w := w.2 hc
    refine r_aload_n C dX12_types_50 rfl 0 rfl ?_
    refine r_bipush (v := 48) C dX12_types_51 rfl ?_
    refine r_iload C dX12_types_53 5 rfl ?_
    refine r_iconst (v := 1) C dX12_types_55 rfl ?_
    refine r_icmp_eq C dX12_types_56 (tgt := 65) rfl (fun hc => ?_) (fun hc => ?_)
    · have w := w.1 hc
      exact (bX12_types_65 C D g44 w)
    · have w := w.2 hc
      refine r_iload C dX12_types_59 5 rfl ?_
      refine r_iconst (v := 2) C dX12_types_61 rfl ?_
      refine r_icmp_ne C dX12_types_62 (tgt := 69) rfl (fun hc => ?_) (fun hc => ?_)
      · have w := w.1 hc
        refine r_iconst (v := 0) C dX12_types_69 rfl ?_
        exact (bX12_types_70 C D g44 w)
      · have w := w.2 hc
        exact (bX12_types_65 C D g44 w)
theorem lpX12_types_44 {E : EV} {X : AX} {post : Option AV → AH → Prop} (C : Cb E X cX12_types RX12 6 rmX12_types) (D : Cr E X none rmX12_types "types" post) {J117 : AH → Option Nat → Int32 → Int32 → Int32 → Prop} (g117 : ∀ (h : AH) (l0 : Option Nat) (l1 : Int32) (l4 : Int32) (l5 : Int32), J117 h l0 l1 l4 l5 → Go E X 6 0 0 117 [(0, aP l0), (1, aI l1), (4, aI l4), (5, aI l5)] [] h) (I : Nat → AH → Option Nat → Int32 → Int32 → Int32 → Int32 → Int32 → Prop) (step : ∀ (z : Nat) (h : AH) (l0 : Option Nat) (l1 : Int32) (l2 : Int32) (l3 : Int32) (l4 : Int32) (l5 : Int32), I z h l0 l1 l2 l3 l4 l5 → PX12_types_44 E post (fun h l0 l1 l2 l3 l4 l5 => ∃ z', z' < z ∧ I z' h l0 l1 l2 l3 l4 l5) J117 h l0 l1 l2 l3 l4 l5) : ∀ (z : Nat) (h : AH) (l0 : Option Nat) (l1 : Int32) (l2 : Int32) (l3 : Int32) (l4 : Int32) (l5 : Int32), I z h l0 l1 l2 l3 l4 l5 → Go E X 6 0 0 44 [(0, aP l0), (1, aI l1), (2, aI l2), (3, aI l3), (4, aI l4), (5, aI l5)] [] h := by
  intro z
  induction z using Nat.strongRecOn with
  | _ z ih =>
    intro h l0 l1 l2 l3 l4 l5 hI
    exact bX12_types_44 C D (fun h l0 l1 l2 l3 l4 l5 hJ => by obtain ⟨z', hz, hi⟩ := hJ; exact ih z' hz h l0 l1 l2 l3 l4 l5 hi) g117 (step z h l0 l1 l2 l3 l4 l5 hI)
def PX12_types_0 (E : EV) (post : Option AV → AH → Prop) (J44 : AH → Option Nat → Int32 → Int32 → Int32 → Int32 → Int32 → Prop) (h : AH) (l0 : Option Nat) (l1 : Int32) : Prop :=
  CS (sX12_low E) [aI l1, aI (6 : Int32)] h (kI fun x1 h2 => ∀ v3, v3 = ((1 : Int32) + x1) → CS (sX12_low E) [aI (l1 >>> ((3 : Int32) &&& 31)), aI (6 : Int32)] h2 (kI fun x4 h5 => ∀ v6, v6 = ((1 : Int32) + x4) → CS (sX12_low E) [aI (l1 >>> ((6 : Int32) &&& 31)), aI (3 : Int32)] h5 (kI fun x7 h8 => ∀ v9, v9 = (((2 : Int32) * v3) - (x7 * v3)) → CV (sX10_clearText E) l0 10 [] h8 (kI fun x10 h11 => J44 h11 l0 l1 v3 v6 v9 (0 : Int32)))))
theorem bX12_types_0 {E : EV} {X : AX} {post : Option AV → AH → Prop} (C : Cb E X cX12_types RX12 6 rmX12_types) (D : Cr E X none rmX12_types "types" post) {J44 : AH → Option Nat → Int32 → Int32 → Int32 → Int32 → Int32 → Prop} (g44 : ∀ (h : AH) (l0 : Option Nat) (l1 : Int32) (l2 : Int32) (l3 : Int32) (l4 : Int32) (l5 : Int32), J44 h l0 l1 l2 l3 l4 l5 → Go E X 6 0 0 44 [(0, aP l0), (1, aI l1), (2, aI l2), (3, aI l3), (4, aI l4), (5, aI l5)] [] h) {h : AH} {l0 : Option Nat} {l1 : Int32} (w : PX12_types_0 E post J44 h l0 l1) : Go E X 6 0 0 0 [(0, aP l0), (1, aI l1)] [] h := by
  unfold PX12_types_0 at w
  refine r_iconst (v := 1) C dX12_types_0 rfl ?_
  refine r_iload_n C dX12_types_1 rfl 1 rfl ?_
  refine r_bipush (v := 6) C dX12_types_2 rfl ?_
  refine r_csI (rm' := rmX12_low) C mX12_low vX12_low k670 [aI l1, aI (6 : Int32)] [aI (1 : Int32)] rfl rfl (Nat.le_of_ble_eq_true rfl) (by decide) ⟨Nat.zero_le _, Nat.zero_le _⟩ 0 0 rfl rfl dX12_types_4 w (fun x1 h2 w => ?_)
  refine r_iadd C dX12_types_7 ?_
  refine r_istore_n C dX12_types_8 rfl (by decide) rfl ?_
  have w := w _ rfl
  refine r_iconst (v := 1) C dX12_types_9 rfl ?_
  refine r_iload_n C dX12_types_10 rfl 2 rfl ?_
  refine r_iconst (v := 3) C dX12_types_11 rfl ?_
  refine r_ishr C dX12_types_12 ?_
  refine r_bipush (v := 6) C dX12_types_13 rfl ?_
  refine r_csI (rm' := rmX12_low) C mX12_low vX12_low k670 [aI (l1 >>> ((3 : Int32) &&& 31)), aI (6 : Int32)] [aI (1 : Int32)] rfl rfl (Nat.le_of_ble_eq_true rfl) (by decide) ⟨Nat.zero_le _, Nat.zero_le _⟩ 0 0 rfl rfl dX12_types_15 w (fun x4 h5 w => ?_)
  refine r_iadd C dX12_types_18 ?_
  refine r_istore_n C dX12_types_19 rfl (by decide) rfl ?_
  have w := w _ rfl
  refine r_iconst (v := 2) C dX12_types_20 rfl ?_
  refine r_iload_n C dX12_types_21 rfl 1 rfl ?_
  refine r_imul C dX12_types_22 ?_
  refine r_iload_n C dX12_types_23 rfl 3 rfl ?_
  refine r_bipush (v := 6) C dX12_types_24 rfl ?_
  refine r_ishr C dX12_types_26 ?_
  refine r_iconst (v := 3) C dX12_types_27 rfl ?_
  refine r_csI (rm' := rmX12_low) C mX12_low vX12_low k670 [aI (l1 >>> ((6 : Int32) &&& 31)), aI (3 : Int32)] [aI ((2 : Int32) * ((1 : Int32) + x1))] rfl rfl (Nat.le_of_ble_eq_true rfl) (by decide) ⟨Nat.zero_le _, Nat.zero_le _⟩ 0 0 rfl rfl dX12_types_28 w (fun x7 h8 w => ?_)
  refine r_iload_n C dX12_types_31 rfl 1 rfl ?_
  refine r_imul C dX12_types_32 ?_
  refine r_isub C dX12_types_33 ?_
  refine r_istore C dX12_types_34 (by decide) rfl ?_
  have w := w _ rfl
  refine r_aload_n C dX12_types_36 rfl 3 rfl ?_
  refine r_cvI (rm' := rmX10_clearText) C mX10_clearText vX10_clearText k674 [] [] rfl rfl (Nat.le_of_ble_eq_true rfl) (by decide) ⟨Nat.zero_le _, Nat.zero_le _⟩ 0 0 rfl rfl dX12_types_37 w (fun x10 h11 w => ?_)
  refine r_pop C dX12_types_40 rfl ?_
  refine r_iconst (v := 0) C dX12_types_41 rfl ?_
  refine r_istore C dX12_types_42 (by decide) rfl ?_
  exact r_sub [4, 5, 3, 2, 1, 0] rfl (g44 h11 l0 l1 ((1 : Int32) + x1) ((1 : Int32) + x4) (((2 : Int32) * ((1 : Int32) + x1)) - (x7 * ((1 : Int32) + x1))) (0 : Int32) w)
theorem eX12_types {E : EV} {post : Option AV → AH → Prop} {h : AH} {l0 : Option Nat} {l1 : Int32} {J44 : AH → Option Nat → Int32 → Int32 → Int32 → Int32 → Int32 → Prop} (g44 : ∀ X : AX, Cb E X cX12_types RX12 6 rmX12_types → Cr E X none rmX12_types "types" post → ∀ (h : AH) (l0 : Option Nat) (l1 : Int32) (l2 : Int32) (l3 : Int32) (l4 : Int32) (l5 : Int32), J44 h l0 l1 l2 l3 l4 l5 → Go E X 6 0 0 44 [(0, aP l0), (1, aI l1), (2, aI l2), (3, aI l3), (4, aI l4), (5, aI l5)] [] h) (w : PX12_types_0 E post J44 h l0 l1) : sX12_types E [aP l0, aI l1] h post := Spec.of RX12 rfl rfl (Nat.le_of_ble_eq_true rfl) fun X C D => bX12_types_0 C D (g44 X C D) w
theorem dX12_does_0 : decode cX12_does 0 = .ok (.iload_n 1, 1) := by decide +kernel
theorem dX12_does_1 : decode cX12_does 1 = .ok (.bipush 15, 2) := by decide +kernel
theorem dX12_does_3 : decode cX12_does 3 = .ok (.iand, 1) := by decide +kernel
theorem dX12_does_4 : decode cX12_does 4 = .ok (.tableswitch 294 0 14 #[76, 76, 96, 124, 161, 201, 201, 213, 213, 213, 225, 225, 259, 259, 281], 76) := by decide +kernel
theorem dX12_does_80 : decode cX12_does 80 = .ok (.aload_n 0, 1) := by decide +kernel
theorem dX12_does_81 : decode cX12_does 81 = .ok (.iload_n 1, 1) := by decide +kernel
theorem dX12_does_82 : decode cX12_does 82 = .ok (.bipush 6, 2) := by decide +kernel
theorem dX12_does_84 : decode cX12_does 84 = .ok (.ishr, 1) := by decide +kernel
theorem dX12_does_85 : decode cX12_does 85 = .ok (.invokestatic 72, 3) := by decide +kernel
theorem dX12_does_88 : decode cX12_does 88 = .ok (.aload_n 0, 1) := by decide +kernel
theorem dX12_does_89 : decode cX12_does 89 = .ok (.iload_n 1, 1) := by decide +kernel
theorem dX12_does_90 : decode cX12_does 90 = .ok (.iconst 4, 1) := by decide +kernel
theorem dX12_does_91 : decode cX12_does 91 = .ok (.ishr, 1) := by decide +kernel
theorem dX12_does_92 : decode cX12_does 92 = .ok (.iconst 4, 1) := by decide +kernel
theorem dX12_does_93 : decode cX12_does 93 = .ok (.invokestatic 61, 3) := by decide +kernel
theorem dX12_does_96 : decode cX12_does 96 = .ok (.invokevirtual 76, 3) := by decide +kernel
theorem dX12_does_99 : decode cX12_does 99 = .ok (.ireturn, 1) := by decide +kernel
theorem dX12_does_100 : decode cX12_does 100 = .ok (.aload_n 0, 1) := by decide +kernel
theorem dX12_does_101 : decode cX12_does 101 = .ok (.iload_n 1, 1) := by decide +kernel
theorem dX12_does_102 : decode cX12_does 102 = .ok (.iconst 4, 1) := by decide +kernel
theorem dX12_does_103 : decode cX12_does 103 = .ok (.ishr, 1) := by decide +kernel
theorem dX12_does_104 : decode cX12_does 104 = .ok (.iconst 4, 1) := by decide +kernel
theorem dX12_does_105 : decode cX12_does 105 = .ok (.invokestatic 61, 3) := by decide +kernel
theorem dX12_does_108 : decode cX12_does 108 = .ok (.iload_n 1, 1) := by decide +kernel
theorem dX12_does_109 : decode cX12_does 109 = .ok (.bipush 6, 2) := by decide +kernel
theorem dX12_does_111 : decode cX12_does 111 = .ok (.ishr, 1) := by decide +kernel
theorem dX12_does_112 : decode cX12_does 112 = .ok (.iconst 4, 1) := by decide +kernel
theorem dX12_does_113 : decode cX12_does 113 = .ok (.invokestatic 61, 3) := by decide +kernel
theorem dX12_does_116 : decode cX12_does 116 = .ok (.iload_n 1, 1) := by decide +kernel
theorem dX12_does_117 : decode cX12_does 117 = .ok (.bipush 8, 2) := by decide +kernel
theorem dX12_does_119 : decode cX12_does 119 = .ok (.ishr, 1) := by decide +kernel
theorem dX12_does_120 : decode cX12_does 120 = .ok (.iconst 5, 1) := by decide +kernel
theorem dX12_does_121 : decode cX12_does 121 = .ok (.invokestatic 61, 3) := by decide +kernel
theorem dX12_does_124 : decode cX12_does 124 = .ok (.invokevirtual 79, 3) := by decide +kernel
theorem dX12_does_127 : decode cX12_does 127 = .ok (.ireturn, 1) := by decide +kernel
theorem dX12_does_128 : decode cX12_does 128 = .ok (.iload_n 1, 1) := by decide +kernel
theorem dX12_does_129 : decode cX12_does 129 = .ok (.iconst 4, 1) := by decide +kernel
theorem dX12_does_130 : decode cX12_does 130 = .ok (.ishr, 1) := by decide +kernel
theorem dX12_does_131 : decode cX12_does 131 = .ok (.iconst 3, 1) := by decide +kernel
theorem dX12_does_132 : decode cX12_does 132 = .ok (.iand, 1) := by decide +kernel
theorem dX12_does_133 : decode cX12_does 133 = .ok (.ifCond .ne 18, 3) := by decide +kernel
theorem dX12_does_136 : decode cX12_does 136 = .ok (.aload_n 0, 1) := by decide +kernel
theorem dX12_does_137 : decode cX12_does 137 = .ok (.iload_n 1, 1) := by decide +kernel
theorem dX12_does_138 : decode cX12_does 138 = .ok (.bipush 6, 2) := by decide +kernel
theorem dX12_does_140 : decode cX12_does 140 = .ok (.ishr, 1) := by decide +kernel
theorem dX12_does_141 : decode cX12_does 141 = .ok (.iconst 4, 1) := by decide +kernel
theorem dX12_does_142 : decode cX12_does 142 = .ok (.invokestatic 61, 3) := by decide +kernel
theorem dX12_does_145 : decode cX12_does 145 = .ok (.invokevirtual 83, 3) := by decide +kernel
theorem dX12_does_148 : decode cX12_does 148 = .ok (.goto 16, 3) := by decide +kernel
theorem dX12_does_151 : decode cX12_does 151 = .ok (.aload_n 0, 1) := by decide +kernel
theorem dX12_does_152 : decode cX12_does 152 = .ok (.iload_n 1, 1) := by decide +kernel
theorem dX12_does_153 : decode cX12_does 153 = .ok (.bipush 6, 2) := by decide +kernel
theorem dX12_does_155 : decode cX12_does 155 = .ok (.ishr, 1) := by decide +kernel
theorem dX12_does_156 : decode cX12_does 156 = .ok (.bipush 7, 2) := by decide +kernel
theorem dX12_does_158 : decode cX12_does 158 = .ok (.invokestatic 61, 3) := by decide +kernel
theorem dX12_does_161 : decode cX12_does 161 = .ok (.invokevirtual 86, 3) := by decide +kernel
theorem dX12_does_164 : decode cX12_does 164 = .ok (.ireturn, 1) := by decide +kernel
theorem dX12_does_165 : decode cX12_does 165 = .ok (.iload_n 1, 1) := by decide +kernel
theorem dX12_does_166 : decode cX12_does 166 = .ok (.iconst 4, 1) := by decide +kernel
theorem dX12_does_167 : decode cX12_does 167 = .ok (.ishr, 1) := by decide +kernel
theorem dX12_does_168 : decode cX12_does 168 = .ok (.iconst 3, 1) := by decide +kernel
theorem dX12_does_169 : decode cX12_does 169 = .ok (.iand, 1) := by decide +kernel
theorem dX12_does_170 : decode cX12_does 170 = .ok (.ifCond .ne 30, 3) := by decide +kernel
theorem dX12_does_173 : decode cX12_does 173 = .ok (.aload_n 0, 1) := by decide +kernel
theorem dX12_does_174 : decode cX12_does 174 = .ok (.iload_n 1, 1) := by decide +kernel
theorem dX12_does_175 : decode cX12_does 175 = .ok (.bipush 6, 2) := by decide +kernel
theorem dX12_does_177 : decode cX12_does 177 = .ok (.ishr, 1) := by decide +kernel
theorem dX12_does_178 : decode cX12_does 178 = .ok (.bipush 30, 2) := by decide +kernel
theorem dX12_does_180 : decode cX12_does 180 = .ok (.invokestatic 61, 3) := by decide +kernel
theorem dX12_does_183 : decode cX12_does 183 = .ok (.iconst 5, 1) := by decide +kernel
theorem dX12_does_184 : decode cX12_does 184 = .ok (.iload_n 1, 1) := by decide +kernel
theorem dX12_does_185 : decode cX12_does 185 = .ok (.bipush 12, 2) := by decide +kernel
theorem dX12_does_187 : decode cX12_does 187 = .ok (.ishr, 1) := by decide +kernel
theorem dX12_does_188 : decode cX12_does 188 = .ok (.bipush 30, 2) := by decide +kernel
theorem dX12_does_190 : decode cX12_does 190 = .ok (.invokestatic 61, 3) := by decide +kernel
theorem dX12_does_193 : decode cX12_does 193 = .ok (.iadd, 1) := by decide +kernel
theorem dX12_does_194 : decode cX12_does 194 = .ok (.invokevirtual 89, 3) := by decide +kernel
theorem dX12_does_197 : decode cX12_does 197 = .ok (.goto 7, 3) := by decide +kernel
theorem dX12_does_200 : decode cX12_does 200 = .ok (.aload_n 0, 1) := by decide +kernel
theorem dX12_does_201 : decode cX12_does 201 = .ok (.invokevirtual 92, 3) := by decide +kernel
theorem dX12_does_204 : decode cX12_does 204 = .ok (.ireturn, 1) := by decide +kernel
theorem dX12_does_205 : decode cX12_does 205 = .ok (.aload_n 0, 1) := by decide +kernel
theorem dX12_does_206 : decode cX12_does 206 = .ok (.iload_n 1, 1) := by decide +kernel
theorem dX12_does_207 : decode cX12_does 207 = .ok (.iconst 4, 1) := by decide +kernel
theorem dX12_does_208 : decode cX12_does 208 = .ok (.ishr, 1) := by decide +kernel
theorem dX12_does_209 : decode cX12_does 209 = .ok (.iconst 4, 1) := by decide +kernel
theorem dX12_does_210 : decode cX12_does 210 = .ok (.invokestatic 61, 3) := by decide +kernel
theorem dX12_does_213 : decode cX12_does 213 = .ok (.invokevirtual 95, 3) := by decide +kernel
theorem dX12_does_216 : decode cX12_does 216 = .ok (.ireturn, 1) := by decide +kernel
theorem dX12_does_217 : decode cX12_does 217 = .ok (.aload_n 0, 1) := by decide +kernel
theorem dX12_does_218 : decode cX12_does 218 = .ok (.iload_n 1, 1) := by decide +kernel
theorem dX12_does_219 : decode cX12_does 219 = .ok (.iconst 4, 1) := by decide +kernel
theorem dX12_does_220 : decode cX12_does 220 = .ok (.ishr, 1) := by decide +kernel
theorem dX12_does_221 : decode cX12_does 221 = .ok (.iconst 4, 1) := by decide +kernel
theorem dX12_does_222 : decode cX12_does 222 = .ok (.invokestatic 61, 3) := by decide +kernel
theorem dX12_does_225 : decode cX12_does 225 = .ok (.invokevirtual 98, 3) := by decide +kernel
theorem dX12_does_228 : decode cX12_does 228 = .ok (.ireturn, 1) := by decide +kernel
theorem dX12_does_229 : decode cX12_does 229 = .ok (.aload_n 0, 1) := by decide +kernel
theorem dX12_does_230 : decode cX12_does 230 = .ok (.iload_n 1, 1) := by decide +kernel
theorem dX12_does_231 : decode cX12_does 231 = .ok (.iconst 4, 1) := by decide +kernel
theorem dX12_does_232 : decode cX12_does 232 = .ok (.ishr, 1) := by decide +kernel
theorem dX12_does_233 : decode cX12_does 233 = .ok (.iconst 4, 1) := by decide +kernel
theorem dX12_does_234 : decode cX12_does 234 = .ok (.invokestatic 61, 3) := by decide +kernel
theorem dX12_does_237 : decode cX12_does 237 = .ok (.iload_n 1, 1) := by decide +kernel
theorem dX12_does_238 : decode cX12_does 238 = .ok (.bipush 6, 2) := by decide +kernel
theorem dX12_does_240 : decode cX12_does 240 = .ok (.ishr, 1) := by decide +kernel
theorem dX12_does_241 : decode cX12_does 241 = .ok (.bipush 25, 2) := by decide +kernel
theorem dX12_does_243 : decode cX12_does 243 = .ok (.invokestatic 61, 3) := by decide +kernel
theorem dX12_does_246 : decode cX12_does 246 = .ok (.iconst 2, 1) := by decide +kernel
theorem dX12_does_247 : decode cX12_does 247 = .ok (.isub, 1) := by decide +kernel
theorem dX12_does_248 : decode cX12_does 248 = .ok (.iload_n 1, 1) := by decide +kernel
theorem dX12_does_249 : decode cX12_does 249 = .ok (.bipush 11, 2) := by decide +kernel
theorem dX12_does_251 : decode cX12_does 251 = .ok (.ishr, 1) := by decide +kernel
theorem dX12_does_252 : decode cX12_does 252 = .ok (.bipush 25, 2) := by decide +kernel
theorem dX12_does_254 : decode cX12_does 254 = .ok (.invokestatic 61, 3) := by decide +kernel
theorem dX12_does_257 : decode cX12_does 257 = .ok (.iconst 2, 1) := by decide +kernel
theorem dX12_does_258 : decode cX12_does 258 = .ok (.isub, 1) := by decide +kernel
theorem dX12_does_259 : decode cX12_does 259 = .ok (.invokevirtual 101, 3) := by decide +kernel
theorem dX12_does_262 : decode cX12_does 262 = .ok (.ireturn, 1) := by decide +kernel
theorem dX12_does_263 : decode cX12_does 263 = .ok (.aload_n 0, 1) := by decide +kernel
theorem dX12_does_264 : decode cX12_does 264 = .ok (.iload_n 1, 1) := by decide +kernel
theorem dX12_does_265 : decode cX12_does 265 = .ok (.iconst 4, 1) := by decide +kernel
theorem dX12_does_266 : decode cX12_does 266 = .ok (.ishr, 1) := by decide +kernel
theorem dX12_does_267 : decode cX12_does 267 = .ok (.bipush 6, 2) := by decide +kernel
theorem dX12_does_269 : decode cX12_does 269 = .ok (.invokestatic 61, 3) := by decide +kernel
theorem dX12_does_272 : decode cX12_does 272 = .ok (.iload_n 1, 1) := by decide +kernel
theorem dX12_does_273 : decode cX12_does 273 = .ok (.bipush 7, 2) := by decide +kernel
theorem dX12_does_275 : decode cX12_does 275 = .ok (.ishr, 1) := by decide +kernel
theorem dX12_does_276 : decode cX12_does 276 = .ok (.bipush 8, 2) := by decide +kernel
theorem dX12_does_278 : decode cX12_does 278 = .ok (.invokestatic 61, 3) := by decide +kernel
theorem dX12_does_281 : decode cX12_does 281 = .ok (.invokevirtual 104, 3) := by decide +kernel
theorem dX12_does_284 : decode cX12_does 284 = .ok (.ireturn, 1) := by decide +kernel
theorem dX12_does_285 : decode cX12_does 285 = .ok (.aload_n 0, 1) := by decide +kernel
theorem dX12_does_286 : decode cX12_does 286 = .ok (.iload_n 1, 1) := by decide +kernel
theorem dX12_does_287 : decode cX12_does 287 = .ok (.iconst 4, 1) := by decide +kernel
theorem dX12_does_288 : decode cX12_does 288 = .ok (.ishr, 1) := by decide +kernel
theorem dX12_does_289 : decode cX12_does 289 = .ok (.bipush 6, 2) := by decide +kernel
theorem dX12_does_291 : decode cX12_does 291 = .ok (.invokestatic 61, 3) := by decide +kernel
theorem dX12_does_294 : decode cX12_does 294 = .ok (.invokevirtual 107, 3) := by decide +kernel
theorem dX12_does_297 : decode cX12_does 297 = .ok (.ireturn, 1) := by decide +kernel
theorem dX12_does_298 : decode cX12_does 298 = .ok (.aload_n 0, 1) := by decide +kernel
theorem dX12_does_299 : decode cX12_does 299 = .ok (.invokevirtual 66, 3) := by decide +kernel
theorem dX12_does_302 : decode cX12_does 302 = .ok (.pop, 1) := by decide +kernel
theorem dX12_does_303 : decode cX12_does 303 = .ok (.iload_n 1, 1) := by decide +kernel
theorem dX12_does_304 : decode cX12_does 304 = .ok (.iconst 4, 1) := by decide +kernel
theorem dX12_does_305 : decode cX12_does 305 = .ok (.ishr, 1) := by decide +kernel
theorem dX12_does_306 : decode cX12_does 306 = .ok (.iconst 1, 1) := by decide +kernel
theorem dX12_does_307 : decode cX12_does 307 = .ok (.iand, 1) := by decide +kernel
theorem dX12_does_308 : decode cX12_does 308 = .ok (.ifCond .ne 10, 3) := by decide +kernel
theorem dX12_does_311 : decode cX12_does 311 = .ok (.aload_n 0, 1) := by decide +kernel
theorem dX12_does_312 : decode cX12_does 312 = .ok (.invokevirtual 110, 3) := by decide +kernel
theorem dX12_does_315 : decode cX12_does 315 = .ok (.goto 8, 3) := by decide +kernel
theorem dX12_does_318 : decode cX12_does 318 = .ok (.aload_n 0, 1) := by decide +kernel
theorem dX12_does_319 : decode cX12_does 319 = .ok (.iconst 0, 1) := by decide +kernel
theorem dX12_does_320 : decode cX12_does 320 = .ok (.invokevirtual 86, 3) := by decide +kernel
theorem dX12_does_323 : decode cX12_does 323 = .ok (.ireturn, 1) := by decide +kernel
abbrev rmX12_does : Room := { frames := 7, cells := 4, slots := 50, locals := 280 }
abbrev sX12_does (E : EV) : List AV → AH → (Option AV → AH → Prop) → Prop := Spec E yX12_does cX12_does 2 (some .int) rmX12_does
theorem mX12_does : Mt yX12_does cX12_does 2 (some .int) 2 := ⟨k666, k0, by decide +kernel⟩
theorem vX12_does : MtS yX12_does := k665
def PX12_does_263 (E : EV) (post : Option AV → AH → Prop) (k n : Nat) (h : AH) (l0 : Option Nat) (l1 : Int32) : Prop :=
  (k ≤ 4 ∧ n ≤ 50) ∧ CS (sX12_low E) [aI (l1 >>> ((4 : Int32) &&& 31)), aI (6 : Int32)] h (kI fun x1 h2 => (k ≤ 4 ∧ n ≤ 50) ∧ CS (sX12_low E) [aI (l1 >>> ((7 : Int32) &&& 31)), aI (8 : Int32)] h2 (kI fun x3 h4 => (k ≤ 4 ∧ n ≤ 50) ∧ CV (sX10_slideItem E) l0 10 [aI x1, aI x3] h4 (kI fun x5 h6 => (k ≤ 4 ∧ n ≤ 50) ∧ post (some (aI x5)) h6)))
theorem bX12_does_263 {E : EV} {X : AX} {post : Option AV → AH → Prop} (C : Cb E X cX12_does RX12 2 rmX12_does) (D : Cr E X (some .int) rmX12_does "does" post) {k n : Nat} {h : AH} {l0 : Option Nat} {l1 : Int32} (w : PX12_does_263 E post k n h l0 l1) : Go E X 2 k n 263 [(0, aP l0), (1, aI l1)] [] h := by
  unfold PX12_does_263 at w
  refine r_aload_n C dX12_does_263 rfl 0 rfl ?_
  refine r_iload_n C dX12_does_264 rfl 1 rfl ?_
  refine r_iconst (v := 4) C dX12_does_265 rfl ?_
  refine r_ishr C dX12_does_266 ?_
  refine r_bipush (v := 6) C dX12_does_267 rfl ?_
  refine r_csI (rm' := rmX12_low) C mX12_low vX12_low k670 [aI (l1 >>> ((4 : Int32) &&& 31)), aI (6 : Int32)] [aP l0] rfl rfl (Nat.le_of_ble_eq_true rfl) (by decide) w.1 k n rfl rfl dX12_does_269 w.2 (fun x1 h2 w => ?_)
  refine r_iload_n C dX12_does_272 rfl 1 rfl ?_
  refine r_bipush (v := 7) C dX12_does_273 rfl ?_
  refine r_ishr C dX12_does_275 ?_
  refine r_bipush (v := 8) C dX12_does_276 rfl ?_
  refine r_csI (rm' := rmX12_low) C mX12_low vX12_low k670 [aI (l1 >>> ((7 : Int32) &&& 31)), aI (8 : Int32)] [aI x1, aP l0] rfl rfl (Nat.le_of_ble_eq_true rfl) (by decide) w.1 k n rfl rfl dX12_does_278 w.2 (fun x3 h4 w => ?_)
  refine r_cvI (rm' := rmX10_slideItem) C mX10_slideItem vX10_slideItem k842 [aI x1, aI x3] [] rfl rfl (Nat.le_of_ble_eq_true rfl) (by decide) w.1 k n rfl rfl dX12_does_281 w.2 (fun x5 h6 w => ?_)
  exact r_iret C D rfl w.1.1 w.1.2 dX12_does_284 w.2
def PX12_does_229 (E : EV) (post : Option AV → AH → Prop) (k n : Nat) (h : AH) (l0 : Option Nat) (l1 : Int32) : Prop :=
  (k ≤ 4 ∧ n ≤ 50) ∧ CS (sX12_low E) [aI (l1 >>> ((4 : Int32) &&& 31)), aI (4 : Int32)] h (kI fun x1 h2 => (k ≤ 4 ∧ n ≤ 50) ∧ CS (sX12_low E) [aI (l1 >>> ((6 : Int32) &&& 31)), aI (25 : Int32)] h2 (kI fun x3 h4 => (k ≤ 4 ∧ n ≤ 50) ∧ CS (sX12_low E) [aI (l1 >>> ((11 : Int32) &&& 31)), aI (25 : Int32)] h4 (kI fun x5 h6 => (k ≤ 4 ∧ n ≤ 50) ∧ CV (sX10_place E) l0 10 [aI x1, aI (x3 - (2 : Int32)), aI (x5 - (2 : Int32))] h6 (kI fun x7 h8 => (k ≤ 4 ∧ n ≤ 50) ∧ post (some (aI x7)) h8))))
theorem bX12_does_229 {E : EV} {X : AX} {post : Option AV → AH → Prop} (C : Cb E X cX12_does RX12 2 rmX12_does) (D : Cr E X (some .int) rmX12_does "does" post) {k n : Nat} {h : AH} {l0 : Option Nat} {l1 : Int32} (w : PX12_does_229 E post k n h l0 l1) : Go E X 2 k n 229 [(0, aP l0), (1, aI l1)] [] h := by
  unfold PX12_does_229 at w
  refine r_aload_n C dX12_does_229 rfl 0 rfl ?_
  refine r_iload_n C dX12_does_230 rfl 1 rfl ?_
  refine r_iconst (v := 4) C dX12_does_231 rfl ?_
  refine r_ishr C dX12_does_232 ?_
  refine r_iconst (v := 4) C dX12_does_233 rfl ?_
  refine r_csI (rm' := rmX12_low) C mX12_low vX12_low k670 [aI (l1 >>> ((4 : Int32) &&& 31)), aI (4 : Int32)] [aP l0] rfl rfl (Nat.le_of_ble_eq_true rfl) (by decide) w.1 k n rfl rfl dX12_does_234 w.2 (fun x1 h2 w => ?_)
  refine r_iload_n C dX12_does_237 rfl 1 rfl ?_
  refine r_bipush (v := 6) C dX12_does_238 rfl ?_
  refine r_ishr C dX12_does_240 ?_
  refine r_bipush (v := 25) C dX12_does_241 rfl ?_
  refine r_csI (rm' := rmX12_low) C mX12_low vX12_low k670 [aI (l1 >>> ((6 : Int32) &&& 31)), aI (25 : Int32)] [aI x1, aP l0] rfl rfl (Nat.le_of_ble_eq_true rfl) (by decide) w.1 k n rfl rfl dX12_does_243 w.2 (fun x3 h4 w => ?_)
  refine r_iconst (v := 2) C dX12_does_246 rfl ?_
  refine r_isub C dX12_does_247 ?_
  refine r_iload_n C dX12_does_248 rfl 1 rfl ?_
  refine r_bipush (v := 11) C dX12_does_249 rfl ?_
  refine r_ishr C dX12_does_251 ?_
  refine r_bipush (v := 25) C dX12_does_252 rfl ?_
  refine r_csI (rm' := rmX12_low) C mX12_low vX12_low k670 [aI (l1 >>> ((11 : Int32) &&& 31)), aI (25 : Int32)] [aI (x3 - (2 : Int32)), aI x1, aP l0] rfl rfl (Nat.le_of_ble_eq_true rfl) (by decide) w.1 k n rfl rfl dX12_does_254 w.2 (fun x5 h6 w => ?_)
  refine r_iconst (v := 2) C dX12_does_257 rfl ?_
  refine r_isub C dX12_does_258 ?_
  refine r_cvI (rm' := rmX10_place) C mX10_place vX10_place k831 [aI x1, aI (x3 - (2 : Int32)), aI (x5 - (2 : Int32))] [] rfl rfl (Nat.le_of_ble_eq_true rfl) (by decide) w.1 k n rfl rfl dX12_does_259 w.2 (fun x7 h8 w => ?_)
  exact r_iret C D rfl w.1.1 w.1.2 dX12_does_262 w.2
def PX12_does_217 (E : EV) (post : Option AV → AH → Prop) (k n : Nat) (h : AH) (l0 : Option Nat) (l1 : Int32) : Prop :=
  (k ≤ 4 ∧ n ≤ 50) ∧ CS (sX12_low E) [aI (l1 >>> ((4 : Int32) &&& 31)), aI (4 : Int32)] h (kI fun x1 h2 => (k ≤ 4 ∧ n ≤ 50) ∧ CV (sX10_placeBottomLeft E) l0 10 [aI x1] h2 (kI fun x3 h4 => (k ≤ 4 ∧ n ≤ 50) ∧ post (some (aI x3)) h4))
theorem bX12_does_217 {E : EV} {X : AX} {post : Option AV → AH → Prop} (C : Cb E X cX12_does RX12 2 rmX12_does) (D : Cr E X (some .int) rmX12_does "does" post) {k n : Nat} {h : AH} {l0 : Option Nat} {l1 : Int32} (w : PX12_does_217 E post k n h l0 l1) : Go E X 2 k n 217 [(0, aP l0), (1, aI l1)] [] h := by
  unfold PX12_does_217 at w
  refine r_aload_n C dX12_does_217 rfl 0 rfl ?_
  refine r_iload_n C dX12_does_218 rfl 1 rfl ?_
  refine r_iconst (v := 4) C dX12_does_219 rfl ?_
  refine r_ishr C dX12_does_220 ?_
  refine r_iconst (v := 4) C dX12_does_221 rfl ?_
  refine r_csI (rm' := rmX12_low) C mX12_low vX12_low k670 [aI (l1 >>> ((4 : Int32) &&& 31)), aI (4 : Int32)] [aP l0] rfl rfl (Nat.le_of_ble_eq_true rfl) (by decide) w.1 k n rfl rfl dX12_does_222 w.2 (fun x1 h2 w => ?_)
  refine r_cvI (rm' := rmX10_placeBottomLeft) C mX10_placeBottomLeft vX10_placeBottomLeft k827 [aI x1] [] rfl rfl (Nat.le_of_ble_eq_true rfl) (by decide) w.1 k n rfl rfl dX12_does_225 w.2 (fun x3 h4 w => ?_)
  exact r_iret C D rfl w.1.1 w.1.2 dX12_does_228 w.2
def PX12_does_205 (E : EV) (post : Option AV → AH → Prop) (k n : Nat) (h : AH) (l0 : Option Nat) (l1 : Int32) : Prop :=
  (k ≤ 4 ∧ n ≤ 50) ∧ CS (sX12_low E) [aI (l1 >>> ((4 : Int32) &&& 31)), aI (4 : Int32)] h (kI fun x1 h2 => (k + 4 ≤ 4 ∧ n + 50 ≤ 50) ∧ CV (sX10_placeTurned E) l0 10 [aI x1] h2 (kI fun x3 h4 => ((k + 4) ≤ 4 ∧ (n + 50) ≤ 50) ∧ post (some (aI x3)) h4))
theorem bX12_does_205 {E : EV} {X : AX} {post : Option AV → AH → Prop} (C : Cb E X cX12_does RX12 2 rmX12_does) (D : Cr E X (some .int) rmX12_does "does" post) {k n : Nat} {h : AH} {l0 : Option Nat} {l1 : Int32} (w : PX12_does_205 E post k n h l0 l1) : Go E X 2 k n 205 [(0, aP l0), (1, aI l1)] [] h := by
  unfold PX12_does_205 at w
  refine r_aload_n C dX12_does_205 rfl 0 rfl ?_
  refine r_iload_n C dX12_does_206 rfl 1 rfl ?_
  refine r_iconst (v := 4) C dX12_does_207 rfl ?_
  refine r_ishr C dX12_does_208 ?_
  refine r_iconst (v := 4) C dX12_does_209 rfl ?_
  refine r_csI (rm' := rmX12_low) C mX12_low vX12_low k670 [aI (l1 >>> ((4 : Int32) &&& 31)), aI (4 : Int32)] [aP l0] rfl rfl (Nat.le_of_ble_eq_true rfl) (by decide) w.1 k n rfl rfl dX12_does_210 w.2 (fun x1 h2 w => ?_)
  refine r_cvI (rm' := rmX10_placeTurned) C mX10_placeTurned vX10_placeTurned k799 [aI x1] [] rfl rfl (Nat.le_of_ble_eq_true rfl) (by decide) w.1 (k + 4) (n + 50) rfl rfl dX12_does_213 w.2 (fun x3 h4 w => ?_)
  exact r_iret C D rfl w.1.1 w.1.2 dX12_does_216 w.2
def PX12_does_80 (E : EV) (post : Option AV → AH → Prop) (k n : Nat) (h : AH) (l0 : Option Nat) (l1 : Int32) : Prop :=
  (k ≤ 4 ∧ n ≤ 50) ∧ CS (sX12_types E) [aP l0, aI (l1 >>> ((6 : Int32) &&& 31))] h (kV fun h2 => (k ≤ 4 ∧ n ≤ 50) ∧ CS (sX12_low E) [aI (l1 >>> ((4 : Int32) &&& 31)), aI (4 : Int32)] h2 (kI fun x3 h4 => (k + 4 ≤ 4 ∧ n + 50 ≤ 50) ∧ CV (sX10_loadShape E) l0 10 [aI x3] h4 (kI fun x5 h6 => ((k + 4) ≤ 4 ∧ (n + 50) ≤ 50) ∧ post (some (aI x5)) h6)))
theorem bX12_does_80 {E : EV} {X : AX} {post : Option AV → AH → Prop} (C : Cb E X cX12_does RX12 2 rmX12_does) (D : Cr E X (some .int) rmX12_does "does" post) {k n : Nat} {h : AH} {l0 : Option Nat} {l1 : Int32} (w : PX12_does_80 E post k n h l0 l1) : Go E X 2 k n 80 [(0, aP l0), (1, aI l1)] [] h := by
  unfold PX12_does_80 at w
  refine r_aload_n C dX12_does_80 rfl 0 rfl ?_
  refine r_iload_n C dX12_does_81 rfl 1 rfl ?_
  refine r_bipush (v := 6) C dX12_does_82 rfl ?_
  refine r_ishr C dX12_does_84 ?_
  refine r_csV (rm' := rmX12_types) C mX12_types vX12_types k667 [aP l0, aI (l1 >>> ((6 : Int32) &&& 31))] [] rfl rfl (Nat.le_of_ble_eq_true rfl) (by decide) w.1 k n rfl rfl dX12_does_85 w.2 (fun h2 w => ?_)
  refine r_aload_n C dX12_does_88 rfl 0 rfl ?_
  refine r_iload_n C dX12_does_89 rfl 1 rfl ?_
  refine r_iconst (v := 4) C dX12_does_90 rfl ?_
  refine r_ishr C dX12_does_91 ?_
  refine r_iconst (v := 4) C dX12_does_92 rfl ?_
  refine r_csI (rm' := rmX12_low) C mX12_low vX12_low k670 [aI (l1 >>> ((4 : Int32) &&& 31)), aI (4 : Int32)] [aP l0] rfl rfl (Nat.le_of_ble_eq_true rfl) (by decide) w.1 k n rfl rfl dX12_does_93 w.2 (fun x3 h4 w => ?_)
  refine r_cvI (rm' := rmX10_loadShape) C mX10_loadShape vX10_loadShape k687 [aI x3] [] rfl rfl (Nat.le_of_ble_eq_true rfl) (by decide) w.1 (k + 4) (n + 50) rfl rfl dX12_does_96 w.2 (fun x5 h6 w => ?_)
  exact r_iret C D rfl w.1.1 w.1.2 dX12_does_99 w.2
def PX12_does_0 (E : EV) (post : Option AV → AH → Prop) (k n : Nat) (h : AH) (l0 : Option Nat) (l1 : Int32) : Prop :=
  ((l1 &&& (15 : Int32)).toInt < 0 ∨ 14 < (l1 &&& (15 : Int32)).toInt → (k ≤ 4 ∧ n ≤ 50) ∧ CV (sX10_clearText E) l0 10 [] h (kI fun x1 h2 => (¬ ((l1 >>> ((4 : Int32) &&& 31)) &&& (1 : Int32)) = 0 → (k ≤ 4 ∧ n ≤ 50) ∧ CV (sX10_setClearance E) l0 10 [aI (0 : Int32)] h2 (kI fun x3 h4 => (k ≤ 4 ∧ n ≤ 50) ∧ post (some (aI x3)) h4)) ∧ (((l1 >>> ((4 : Int32) &&& 31)) &&& (1 : Int32)) = 0 → (k ≤ 4 ∧ n ≤ 50) ∧ CV (sX10_loadLayout E) l0 10 [] h2 (kI fun x3 h4 => (k ≤ 4 ∧ n ≤ 50) ∧ post (some (aI x3)) h4)))) ∧ ((l1 &&& (15 : Int32)).toInt = 0 → PX12_does_80 E post k n h l0 l1) ∧ ((l1 &&& (15 : Int32)).toInt = 1 → PX12_does_80 E post k n h l0 l1) ∧ ((l1 &&& (15 : Int32)).toInt = 2 → (k ≤ 4 ∧ n ≤ 50) ∧ CS (sX12_low E) [aI (l1 >>> ((4 : Int32) &&& 31)), aI (4 : Int32)] h (kI fun x1 h2 => (k ≤ 4 ∧ n ≤ 50) ∧ CS (sX12_low E) [aI (l1 >>> ((6 : Int32) &&& 31)), aI (4 : Int32)] h2 (kI fun x3 h4 => (k ≤ 4 ∧ n ≤ 50) ∧ CS (sX12_low E) [aI (l1 >>> ((8 : Int32) &&& 31)), aI (5 : Int32)] h4 (kI fun x5 h6 => (k + 4 ≤ 4 ∧ n + 50 ≤ 50) ∧ CV (sX10_copyShape E) l0 10 [aI x1, aI x3, aI x5] h6 (kI fun x7 h8 => ((k + 4) ≤ 4 ∧ (n + 50) ≤ 50) ∧ post (some (aI x7)) h8))))) ∧ ((l1 &&& (15 : Int32)).toInt = 3 → (¬ ((l1 >>> ((4 : Int32) &&& 31)) &&& (3 : Int32)) = 0 → (k ≤ 4 ∧ n ≤ 50) ∧ CS (sX12_low E) [aI (l1 >>> ((6 : Int32) &&& 31)), aI (7 : Int32)] h (kI fun x1 h2 => (k ≤ 4 ∧ n ≤ 50) ∧ CV (sX10_setClearance E) l0 10 [aI x1] h2 (kI fun x3 h4 => (k ≤ 4 ∧ n ≤ 50) ∧ post (some (aI x3)) h4))) ∧ (((l1 >>> ((4 : Int32) &&& 31)) &&& (3 : Int32)) = 0 → (k ≤ 4 ∧ n ≤ 50) ∧ CS (sX12_low E) [aI (l1 >>> ((6 : Int32) &&& 31)), aI (4 : Int32)] h (kI fun x1 h2 => (k ≤ 4 ∧ n ≤ 50) ∧ CV (sX10_clearShape E) l0 10 [aI x1] h2 (kI fun x3 h4 => (k ≤ 4 ∧ n ≤ 50) ∧ post (some (aI x3)) h4)))) ∧ ((l1 &&& (15 : Int32)).toInt = 4 → (¬ ((l1 >>> ((4 : Int32) &&& 31)) &&& (3 : Int32)) = 0 → (k ≤ 4 ∧ n ≤ 50) ∧ CV (sX10_compact E) l0 10 [] h (kI fun x1 h2 => (k ≤ 4 ∧ n ≤ 50) ∧ post (some (aI x1)) h2)) ∧ (((l1 >>> ((4 : Int32) &&& 31)) &&& (3 : Int32)) = 0 → (k ≤ 4 ∧ n ≤ 50) ∧ CS (sX12_low E) [aI (l1 >>> ((6 : Int32) &&& 31)), aI (30 : Int32)] h (kI fun x1 h2 => (k ≤ 4 ∧ n ≤ 50) ∧ CS (sX12_low E) [aI (l1 >>> ((12 : Int32) &&& 31)), aI (30 : Int32)] h2 (kI fun x3 h4 => (k ≤ 4 ∧ n ≤ 50) ∧ CV (sX10_setContainer E) l0 10 [aI x1, aI ((5 : Int32) + x3)] h4 (kI fun x5 h6 => (k ≤ 4 ∧ n ≤ 50) ∧ post (some (aI x5)) h6))))) ∧ ((l1 &&& (15 : Int32)).toInt = 5 → PX12_does_205 E post k n h l0 l1) ∧ ((l1 &&& (15 : Int32)).toInt = 6 → PX12_does_205 E post k n h l0 l1) ∧ ((l1 &&& (15 : Int32)).toInt = 7 → PX12_does_217 E post k n h l0 l1) ∧ ((l1 &&& (15 : Int32)).toInt = 8 → PX12_does_217 E post k n h l0 l1) ∧ ((l1 &&& (15 : Int32)).toInt = 9 → PX12_does_217 E post k n h l0 l1) ∧ ((l1 &&& (15 : Int32)).toInt = 10 → PX12_does_229 E post k n h l0 l1) ∧ ((l1 &&& (15 : Int32)).toInt = 11 → PX12_does_229 E post k n h l0 l1) ∧ ((l1 &&& (15 : Int32)).toInt = 12 → PX12_does_263 E post k n h l0 l1) ∧ ((l1 &&& (15 : Int32)).toInt = 13 → PX12_does_263 E post k n h l0 l1) ∧ ((l1 &&& (15 : Int32)).toInt = 14 → (k ≤ 4 ∧ n ≤ 50) ∧ CS (sX12_low E) [aI (l1 >>> ((4 : Int32) &&& 31)), aI (6 : Int32)] h (kI fun x1 h2 => (k ≤ 4 ∧ n ≤ 50) ∧ CV (sX10_removeItem E) l0 10 [aI x1] h2 (kI fun x3 h4 => (k ≤ 4 ∧ n ≤ 50) ∧ post (some (aI x3)) h4)))
theorem bX12_does_0 {E : EV} {X : AX} {post : Option AV → AH → Prop} (C : Cb E X cX12_does RX12 2 rmX12_does) (D : Cr E X (some .int) rmX12_does "does" post) {k n : Nat} {h : AH} {l0 : Option Nat} {l1 : Int32} (w : PX12_does_0 E post k n h l0 l1) : Go E X 2 k n 0 [(0, aP l0), (1, aI l1)] [] h := by
  unfold PX12_does_0 at w
  refine r_iload_n C dX12_does_0 rfl 1 rfl ?_
  refine r_bipush (v := 15) C dX12_does_1 rfl ?_
  refine r_iand C dX12_does_3 ?_
  by_cases ho : (l1 &&& (15 : Int32)).toInt < 0 ∨ 14 < (l1 &&& (15 : Int32)).toInt
  · refine r_tout C dX12_does_4 ho (tgt := 298) rfl ?_
    have w := w.1 ho
    refine r_aload_n C dX12_does_298 rfl 0 rfl ?_
    refine r_cvI (rm' := rmX10_clearText) C mX10_clearText vX10_clearText k674 [] [] rfl rfl (Nat.le_of_ble_eq_true rfl) (by decide) w.1 k n rfl rfl dX12_does_299 w.2 (fun x1 h2 w => ?_)
    refine r_pop C dX12_does_302 rfl ?_
    refine r_iload_n C dX12_does_303 rfl 1 rfl ?_
    refine r_iconst (v := 4) C dX12_does_304 rfl ?_
    refine r_ishr C dX12_does_305 ?_
    refine r_iconst (v := 1) C dX12_does_306 rfl ?_
    refine r_iand C dX12_does_307 ?_
    refine r_if_ne C dX12_does_308 (tgt := 318) rfl (fun hc => ?_) (fun hc => ?_)
    · have w := w.1 hc
      refine r_aload_n C dX12_does_318 rfl 0 rfl ?_
      refine r_iconst (v := 0) C dX12_does_319 rfl ?_
      refine r_cvI (rm' := rmX10_setClearance) C mX10_setClearance vX10_setClearance k779 [aI (0 : Int32)] [] rfl rfl (Nat.le_of_ble_eq_true rfl) (by decide) w.1 k n rfl rfl dX12_does_320 w.2 (fun x3 h4 w => ?_)
      exact r_iret C D rfl w.1.1 w.1.2 dX12_does_323 w.2
    · have w := w.2 hc
      refine r_aload_n C dX12_does_311 rfl 0 rfl ?_
      refine r_cvI (rm' := rmX10_loadLayout) C mX10_loadLayout vX10_loadLayout k854 [] [] rfl rfl (Nat.le_of_ble_eq_true rfl) (by decide) w.1 k n rfl rfl dX12_does_312 w.2 (fun x3 h4 w => ?_)
      refine r_goto C dX12_does_315 (tgt := 323) rfl ?_
      exact r_iret C D rfl w.1.1 w.1.2 dX12_does_323 w.2
  have w := w.2
  by_cases ho0 : (l1 &&& (15 : Int32)).toInt = 0
  · refine r_tin C dX12_does_4 (by omega) (by omega) (off := 76) (by rw [ho0]; rfl) (tgt := 80) rfl ?_
    have w := w.1 ho0
    exact (bX12_does_80 C D w)
  have w := w.2
  by_cases ho1 : (l1 &&& (15 : Int32)).toInt = 1
  · refine r_tin C dX12_does_4 (by omega) (by omega) (off := 76) (by rw [ho1]; rfl) (tgt := 80) rfl ?_
    have w := w.1 ho1
    exact (bX12_does_80 C D w)
  have w := w.2
  by_cases ho2 : (l1 &&& (15 : Int32)).toInt = 2
  · refine r_tin C dX12_does_4 (by omega) (by omega) (off := 96) (by rw [ho2]; rfl) (tgt := 100) rfl ?_
    have w := w.1 ho2
    refine r_aload_n C dX12_does_100 rfl 0 rfl ?_
    refine r_iload_n C dX12_does_101 rfl 1 rfl ?_
    refine r_iconst (v := 4) C dX12_does_102 rfl ?_
    refine r_ishr C dX12_does_103 ?_
    refine r_iconst (v := 4) C dX12_does_104 rfl ?_
    refine r_csI (rm' := rmX12_low) C mX12_low vX12_low k670 [aI (l1 >>> ((4 : Int32) &&& 31)), aI (4 : Int32)] [aP l0] rfl rfl (Nat.le_of_ble_eq_true rfl) (by decide) w.1 k n rfl rfl dX12_does_105 w.2 (fun x1 h2 w => ?_)
    refine r_iload_n C dX12_does_108 rfl 1 rfl ?_
    refine r_bipush (v := 6) C dX12_does_109 rfl ?_
    refine r_ishr C dX12_does_111 ?_
    refine r_iconst (v := 4) C dX12_does_112 rfl ?_
    refine r_csI (rm' := rmX12_low) C mX12_low vX12_low k670 [aI (l1 >>> ((6 : Int32) &&& 31)), aI (4 : Int32)] [aI x1, aP l0] rfl rfl (Nat.le_of_ble_eq_true rfl) (by decide) w.1 k n rfl rfl dX12_does_113 w.2 (fun x3 h4 w => ?_)
    refine r_iload_n C dX12_does_116 rfl 1 rfl ?_
    refine r_bipush (v := 8) C dX12_does_117 rfl ?_
    refine r_ishr C dX12_does_119 ?_
    refine r_iconst (v := 5) C dX12_does_120 rfl ?_
    refine r_csI (rm' := rmX12_low) C mX12_low vX12_low k670 [aI (l1 >>> ((8 : Int32) &&& 31)), aI (5 : Int32)] [aI x3, aI x1, aP l0] rfl rfl (Nat.le_of_ble_eq_true rfl) (by decide) w.1 k n rfl rfl dX12_does_121 w.2 (fun x5 h6 w => ?_)
    refine r_cvI (rm' := rmX10_copyShape) C mX10_copyShape vX10_copyShape k771 [aI x1, aI x3, aI x5] [] rfl rfl (Nat.le_of_ble_eq_true rfl) (by decide) w.1 (k + 4) (n + 50) rfl rfl dX12_does_124 w.2 (fun x7 h8 w => ?_)
    exact r_iret C D rfl w.1.1 w.1.2 dX12_does_127 w.2
  have w := w.2
  by_cases ho3 : (l1 &&& (15 : Int32)).toInt = 3
  · refine r_tin C dX12_does_4 (by omega) (by omega) (off := 124) (by rw [ho3]; rfl) (tgt := 128) rfl ?_
    have w := w.1 ho3
    refine r_iload_n C dX12_does_128 rfl 1 rfl ?_
    refine r_iconst (v := 4) C dX12_does_129 rfl ?_
    refine r_ishr C dX12_does_130 ?_
    refine r_iconst (v := 3) C dX12_does_131 rfl ?_
    refine r_iand C dX12_does_132 ?_
    refine r_if_ne C dX12_does_133 (tgt := 151) rfl (fun hc => ?_) (fun hc => ?_)
    · have w := w.1 hc
      refine r_aload_n C dX12_does_151 rfl 0 rfl ?_
      refine r_iload_n C dX12_does_152 rfl 1 rfl ?_
      refine r_bipush (v := 6) C dX12_does_153 rfl ?_
      refine r_ishr C dX12_does_155 ?_
      refine r_bipush (v := 7) C dX12_does_156 rfl ?_
      refine r_csI (rm' := rmX12_low) C mX12_low vX12_low k670 [aI (l1 >>> ((6 : Int32) &&& 31)), aI (7 : Int32)] [aP l0] rfl rfl (Nat.le_of_ble_eq_true rfl) (by decide) w.1 k n rfl rfl dX12_does_158 w.2 (fun x1 h2 w => ?_)
      refine r_cvI (rm' := rmX10_setClearance) C mX10_setClearance vX10_setClearance k779 [aI x1] [] rfl rfl (Nat.le_of_ble_eq_true rfl) (by decide) w.1 k n rfl rfl dX12_does_161 w.2 (fun x3 h4 w => ?_)
      exact r_iret C D rfl w.1.1 w.1.2 dX12_does_164 w.2
    · have w := w.2 hc
      refine r_aload_n C dX12_does_136 rfl 0 rfl ?_
      refine r_iload_n C dX12_does_137 rfl 1 rfl ?_
      refine r_bipush (v := 6) C dX12_does_138 rfl ?_
      refine r_ishr C dX12_does_140 ?_
      refine r_iconst (v := 4) C dX12_does_141 rfl ?_
      refine r_csI (rm' := rmX12_low) C mX12_low vX12_low k670 [aI (l1 >>> ((6 : Int32) &&& 31)), aI (4 : Int32)] [aP l0] rfl rfl (Nat.le_of_ble_eq_true rfl) (by decide) w.1 k n rfl rfl dX12_does_142 w.2 (fun x1 h2 w => ?_)
      refine r_cvI (rm' := rmX10_clearShape) C mX10_clearShape vX10_clearShape k775 [aI x1] [] rfl rfl (Nat.le_of_ble_eq_true rfl) (by decide) w.1 k n rfl rfl dX12_does_145 w.2 (fun x3 h4 w => ?_)
      refine r_goto C dX12_does_148 (tgt := 164) rfl ?_
      exact r_iret C D rfl w.1.1 w.1.2 dX12_does_164 w.2
  have w := w.2
  by_cases ho4 : (l1 &&& (15 : Int32)).toInt = 4
  · refine r_tin C dX12_does_4 (by omega) (by omega) (off := 161) (by rw [ho4]; rfl) (tgt := 165) rfl ?_
    have w := w.1 ho4
    refine r_iload_n C dX12_does_165 rfl 1 rfl ?_
    refine r_iconst (v := 4) C dX12_does_166 rfl ?_
    refine r_ishr C dX12_does_167 ?_
    refine r_iconst (v := 3) C dX12_does_168 rfl ?_
    refine r_iand C dX12_does_169 ?_
    refine r_if_ne C dX12_does_170 (tgt := 200) rfl (fun hc => ?_) (fun hc => ?_)
    · have w := w.1 hc
      refine r_aload_n C dX12_does_200 rfl 0 rfl ?_
      refine r_cvI (rm' := rmX10_compact) C mX10_compact vX10_compact k789 [] [] rfl rfl (Nat.le_of_ble_eq_true rfl) (by decide) w.1 k n rfl rfl dX12_does_201 w.2 (fun x1 h2 w => ?_)
      exact r_iret C D rfl w.1.1 w.1.2 dX12_does_204 w.2
    · have w := w.2 hc
      refine r_aload_n C dX12_does_173 rfl 0 rfl ?_
      refine r_iload_n C dX12_does_174 rfl 1 rfl ?_
      refine r_bipush (v := 6) C dX12_does_175 rfl ?_
      refine r_ishr C dX12_does_177 ?_
      refine r_bipush (v := 30) C dX12_does_178 rfl ?_
      refine r_csI (rm' := rmX12_low) C mX12_low vX12_low k670 [aI (l1 >>> ((6 : Int32) &&& 31)), aI (30 : Int32)] [aP l0] rfl rfl (Nat.le_of_ble_eq_true rfl) (by decide) w.1 k n rfl rfl dX12_does_180 w.2 (fun x1 h2 w => ?_)
      refine r_iconst (v := 5) C dX12_does_183 rfl ?_
      refine r_iload_n C dX12_does_184 rfl 1 rfl ?_
      refine r_bipush (v := 12) C dX12_does_185 rfl ?_
      refine r_ishr C dX12_does_187 ?_
      refine r_bipush (v := 30) C dX12_does_188 rfl ?_
      refine r_csI (rm' := rmX12_low) C mX12_low vX12_low k670 [aI (l1 >>> ((12 : Int32) &&& 31)), aI (30 : Int32)] [aI (5 : Int32), aI x1, aP l0] rfl rfl (Nat.le_of_ble_eq_true rfl) (by decide) w.1 k n rfl rfl dX12_does_190 w.2 (fun x3 h4 w => ?_)
      refine r_iadd C dX12_does_193 ?_
      refine r_cvI (rm' := rmX10_setContainer) C mX10_setContainer vX10_setContainer k345 [aI x1, aI ((5 : Int32) + x3)] [] rfl rfl (Nat.le_of_ble_eq_true rfl) (by decide) w.1 k n rfl rfl dX12_does_194 w.2 (fun x5 h6 w => ?_)
      refine r_goto C dX12_does_197 (tgt := 204) rfl ?_
      exact r_iret C D rfl w.1.1 w.1.2 dX12_does_204 w.2
  have w := w.2
  by_cases ho5 : (l1 &&& (15 : Int32)).toInt = 5
  · refine r_tin C dX12_does_4 (by omega) (by omega) (off := 201) (by rw [ho5]; rfl) (tgt := 205) rfl ?_
    have w := w.1 ho5
    exact (bX12_does_205 C D w)
  have w := w.2
  by_cases ho6 : (l1 &&& (15 : Int32)).toInt = 6
  · refine r_tin C dX12_does_4 (by omega) (by omega) (off := 201) (by rw [ho6]; rfl) (tgt := 205) rfl ?_
    have w := w.1 ho6
    exact (bX12_does_205 C D w)
  have w := w.2
  by_cases ho7 : (l1 &&& (15 : Int32)).toInt = 7
  · refine r_tin C dX12_does_4 (by omega) (by omega) (off := 213) (by rw [ho7]; rfl) (tgt := 217) rfl ?_
    have w := w.1 ho7
    exact (bX12_does_217 C D w)
  have w := w.2
  by_cases ho8 : (l1 &&& (15 : Int32)).toInt = 8
  · refine r_tin C dX12_does_4 (by omega) (by omega) (off := 213) (by rw [ho8]; rfl) (tgt := 217) rfl ?_
    have w := w.1 ho8
    exact (bX12_does_217 C D w)
  have w := w.2
  by_cases ho9 : (l1 &&& (15 : Int32)).toInt = 9
  · refine r_tin C dX12_does_4 (by omega) (by omega) (off := 213) (by rw [ho9]; rfl) (tgt := 217) rfl ?_
    have w := w.1 ho9
    exact (bX12_does_217 C D w)
  have w := w.2
  by_cases ho10 : (l1 &&& (15 : Int32)).toInt = 10
  · refine r_tin C dX12_does_4 (by omega) (by omega) (off := 225) (by rw [ho10]; rfl) (tgt := 229) rfl ?_
    have w := w.1 ho10
    exact (bX12_does_229 C D w)
  have w := w.2
  by_cases ho11 : (l1 &&& (15 : Int32)).toInt = 11
  · refine r_tin C dX12_does_4 (by omega) (by omega) (off := 225) (by rw [ho11]; rfl) (tgt := 229) rfl ?_
    have w := w.1 ho11
    exact (bX12_does_229 C D w)
  have w := w.2
  by_cases ho12 : (l1 &&& (15 : Int32)).toInt = 12
  · refine r_tin C dX12_does_4 (by omega) (by omega) (off := 259) (by rw [ho12]; rfl) (tgt := 263) rfl ?_
    have w := w.1 ho12
    exact (bX12_does_263 C D w)
  have w := w.2
  by_cases ho13 : (l1 &&& (15 : Int32)).toInt = 13
  · refine r_tin C dX12_does_4 (by omega) (by omega) (off := 259) (by rw [ho13]; rfl) (tgt := 263) rfl ?_
    have w := w.1 ho13
    exact (bX12_does_263 C D w)
  have w := w.2
  have ho14 : (l1 &&& (15 : Int32)).toInt = 14 := last1 (up1 (up1 (up1 (up1 (up1 (up1 (up1 (up1 (up1 (up1 (up1 (up1 (up1 (up1 (low0 ho) ho0) ho1) ho2) ho3) ho4) ho5) ho6) ho7) ho8) ho9) ho10) ho11) ho12) ho13) ho
  refine r_tin C dX12_does_4 (by omega) (by omega) (off := 281) (by rw [ho14]; rfl) (tgt := 285) rfl ?_
  have w := w ho14
  refine r_aload_n C dX12_does_285 rfl 0 rfl ?_
  refine r_iload_n C dX12_does_286 rfl 1 rfl ?_
  refine r_iconst (v := 4) C dX12_does_287 rfl ?_
  refine r_ishr C dX12_does_288 ?_
  refine r_bipush (v := 6) C dX12_does_289 rfl ?_
  refine r_csI (rm' := rmX12_low) C mX12_low vX12_low k670 [aI (l1 >>> ((4 : Int32) &&& 31)), aI (6 : Int32)] [aP l0] rfl rfl (Nat.le_of_ble_eq_true rfl) (by decide) w.1 k n rfl rfl dX12_does_291 w.2 (fun x1 h2 w => ?_)
  refine r_cvI (rm' := rmX10_removeItem) C mX10_removeItem vX10_removeItem k846 [aI x1] [] rfl rfl (Nat.le_of_ble_eq_true rfl) (by decide) w.1 k n rfl rfl dX12_does_294 w.2 (fun x3 h4 w => ?_)
  exact r_iret C D rfl w.1.1 w.1.2 dX12_does_297 w.2
theorem eX12_does {E : EV} {post : Option AV → AH → Prop} {h : AH} {l0 : Option Nat} {l1 : Int32} (w : PX12_does_0 E post 0 0 h l0 l1) : sX12_does E [aP l0, aI l1] h post := Spec.of RX12 rfl rfl (Nat.le_of_ble_eq_true rfl) fun X C D => bX12_does_0 C D w
theorem dX12_tale_0 : decode cX12_tale 0 = .ok (.aload_n 0, 1) := by decide +kernel
theorem dX12_tale_1 : decode cX12_tale 1 = .ok (.invokevirtual 8, 3) := by decide +kernel
theorem dX12_tale_4 : decode cX12_tale 4 = .ok (.i2l, 1) := by decide +kernel
theorem dX12_tale_5 : decode cX12_tale 5 = .ok (.ldc2_w 14, 3) := by decide +kernel
theorem dX12_tale_8 : decode cX12_tale 8 = .ok (.lmul, 1) := by decide +kernel
theorem dX12_tale_9 : decode cX12_tale 9 = .ok (.aload_n 0, 1) := by decide +kernel
theorem dX12_tale_10 : decode cX12_tale 10 = .ok (.invokevirtual 16, 3) := by decide +kernel
theorem dX12_tale_13 : decode cX12_tale 13 = .ok (.i2l, 1) := by decide +kernel
theorem dX12_tale_14 : decode cX12_tale 14 = .ok (.ladd, 1) := by decide +kernel
theorem dX12_tale_15 : decode cX12_tale 15 = .ok (.lstore_n 1, 1) := by decide +kernel
theorem dX12_tale_16 : decode cX12_tale 16 = .ok (.iconst 0, 1) := by decide +kernel
theorem dX12_tale_17 : decode cX12_tale 17 = .ok (.istore_n 3, 1) := by decide +kernel
theorem dX12_tale_18 : decode cX12_tale 18 = .ok (.iload_n 3, 1) := by decide +kernel
theorem dX12_tale_19 : decode cX12_tale 19 = .ok (.iconst 4, 1) := by decide +kernel
theorem dX12_tale_20 : decode cX12_tale 20 = .ok (.if_icmp .ge 83, 3) := by decide +kernel
theorem dX12_tale_23 : decode cX12_tale 23 = .ok (.lload_n 1, 1) := by decide +kernel
theorem dX12_tale_24 : decode cX12_tale 24 = .ok (.ldc2_w 14, 3) := by decide +kernel
theorem dX12_tale_27 : decode cX12_tale 27 = .ok (.lmul, 1) := by decide +kernel
theorem dX12_tale_28 : decode cX12_tale 28 = .ok (.aload_n 0, 1) := by decide +kernel
theorem dX12_tale_29 : decode cX12_tale 29 = .ok (.iload_n 3, 1) := by decide +kernel
theorem dX12_tale_30 : decode cX12_tale 30 = .ok (.invokevirtual 19, 3) := by decide +kernel
theorem dX12_tale_33 : decode cX12_tale 33 = .ok (.i2l, 1) := by decide +kernel
theorem dX12_tale_34 : decode cX12_tale 34 = .ok (.ladd, 1) := by decide +kernel
theorem dX12_tale_35 : decode cX12_tale 35 = .ok (.lstore_n 1, 1) := by decide +kernel
theorem dX12_tale_36 : decode cX12_tale 36 = .ok (.iconst 0, 1) := by decide +kernel
theorem dX12_tale_37 : decode cX12_tale 37 = .ok (.istore 4, 2) := by decide +kernel
theorem dX12_tale_39 : decode cX12_tale 39 = .ok (.iload 4, 2) := by decide +kernel
theorem dX12_tale_41 : decode cX12_tale 41 = .ok (.bipush 8, 2) := by decide +kernel
theorem dX12_tale_43 : decode cX12_tale 43 = .ok (.if_icmp .ge 24, 3) := by decide +kernel
theorem dX12_tale_46 : decode cX12_tale 46 = .ok (.lload_n 1, 1) := by decide +kernel
theorem dX12_tale_47 : decode cX12_tale 47 = .ok (.ldc2_w 23, 3) := by decide +kernel
theorem dX12_tale_50 : decode cX12_tale 50 = .ok (.lmul, 1) := by decide +kernel
theorem dX12_tale_51 : decode cX12_tale 51 = .ok (.aload_n 0, 1) := by decide +kernel
theorem dX12_tale_52 : decode cX12_tale 52 = .ok (.iload_n 3, 1) := by decide +kernel
theorem dX12_tale_53 : decode cX12_tale 53 = .ok (.iload 4, 2) := by decide +kernel
theorem dX12_tale_55 : decode cX12_tale 55 = .ok (.invokevirtual 25, 3) := by decide +kernel
theorem dX12_tale_58 : decode cX12_tale 58 = .ok (.i2l, 1) := by decide +kernel
theorem dX12_tale_59 : decode cX12_tale 59 = .ok (.ladd, 1) := by decide +kernel
theorem dX12_tale_60 : decode cX12_tale 60 = .ok (.lstore_n 1, 1) := by decide +kernel
theorem dX12_tale_61 : decode cX12_tale 61 = .ok (.iinc 4 1, 3) := by decide +kernel
theorem dX12_tale_64 : decode cX12_tale 64 = .ok (.goto (-25), 3) := by decide +kernel
theorem dX12_tale_67 : decode cX12_tale 67 = .ok (.iconst 0, 1) := by decide +kernel
theorem dX12_tale_68 : decode cX12_tale 68 = .ok (.istore 4, 2) := by decide +kernel
theorem dX12_tale_70 : decode cX12_tale 70 = .ok (.iload 4, 2) := by decide +kernel
theorem dX12_tale_72 : decode cX12_tale 72 = .ok (.iconst 3, 1) := by decide +kernel
theorem dX12_tale_73 : decode cX12_tale 73 = .ok (.if_icmp .ge 24, 3) := by decide +kernel
theorem dX12_tale_76 : decode cX12_tale 76 = .ok (.lload_n 1, 1) := by decide +kernel
theorem dX12_tale_77 : decode cX12_tale 77 = .ok (.ldc2_w 29, 3) := by decide +kernel
theorem dX12_tale_80 : decode cX12_tale 80 = .ok (.lmul, 1) := by decide +kernel
theorem dX12_tale_81 : decode cX12_tale 81 = .ok (.aload_n 0, 1) := by decide +kernel
theorem dX12_tale_82 : decode cX12_tale 82 = .ok (.iload_n 3, 1) := by decide +kernel
theorem dX12_tale_83 : decode cX12_tale 83 = .ok (.iload 4, 2) := by decide +kernel
theorem dX12_tale_85 : decode cX12_tale 85 = .ok (.invokevirtual 31, 3) := by decide +kernel
theorem dX12_tale_88 : decode cX12_tale 88 = .ok (.i2l, 1) := by decide +kernel
theorem dX12_tale_89 : decode cX12_tale 89 = .ok (.ladd, 1) := by decide +kernel
theorem dX12_tale_90 : decode cX12_tale 90 = .ok (.lstore_n 1, 1) := by decide +kernel
theorem dX12_tale_91 : decode cX12_tale 91 = .ok (.iinc 4 1, 3) := by decide +kernel
theorem dX12_tale_94 : decode cX12_tale 94 = .ok (.goto (-24), 3) := by decide +kernel
theorem dX12_tale_97 : decode cX12_tale 97 = .ok (.iinc 3 1, 3) := by decide +kernel
theorem dX12_tale_100 : decode cX12_tale 100 = .ok (.goto (-82), 3) := by decide +kernel
theorem dX12_tale_103 : decode cX12_tale 103 = .ok (.iconst 0, 1) := by decide +kernel
theorem dX12_tale_104 : decode cX12_tale 104 = .ok (.istore_n 3, 1) := by decide +kernel
theorem dX12_tale_105 : decode cX12_tale 105 = .ok (.iload_n 3, 1) := by decide +kernel
theorem dX12_tale_106 : decode cX12_tale 106 = .ok (.aload_n 0, 1) := by decide +kernel
theorem dX12_tale_107 : decode cX12_tale 107 = .ok (.invokevirtual 8, 3) := by decide +kernel
theorem dX12_tale_110 : decode cX12_tale 110 = .ok (.if_icmp .ge 35, 3) := by decide +kernel
theorem dX12_tale_113 : decode cX12_tale 113 = .ok (.lload_n 1, 1) := by decide +kernel
theorem dX12_tale_114 : decode cX12_tale 114 = .ok (.ldc2_w 34, 3) := by decide +kernel
theorem dX12_tale_117 : decode cX12_tale 117 = .ok (.lmul, 1) := by decide +kernel
theorem dX12_tale_118 : decode cX12_tale 118 = .ok (.aload_n 0, 1) := by decide +kernel
theorem dX12_tale_119 : decode cX12_tale 119 = .ok (.iload_n 3, 1) := by decide +kernel
theorem dX12_tale_120 : decode cX12_tale 120 = .ok (.iconst 0, 1) := by decide +kernel
theorem dX12_tale_121 : decode cX12_tale 121 = .ok (.invokevirtual 36, 3) := by decide +kernel
theorem dX12_tale_124 : decode cX12_tale 124 = .ok (.i2l, 1) := by decide +kernel
theorem dX12_tale_125 : decode cX12_tale 125 = .ok (.ldc2_w 39, 3) := by decide +kernel
theorem dX12_tale_128 : decode cX12_tale 128 = .ok (.lmul, 1) := by decide +kernel
theorem dX12_tale_129 : decode cX12_tale 129 = .ok (.ladd, 1) := by decide +kernel
theorem dX12_tale_130 : decode cX12_tale 130 = .ok (.aload_n 0, 1) := by decide +kernel
theorem dX12_tale_131 : decode cX12_tale 131 = .ok (.iload_n 3, 1) := by decide +kernel
theorem dX12_tale_132 : decode cX12_tale 132 = .ok (.iconst 1, 1) := by decide +kernel
theorem dX12_tale_133 : decode cX12_tale 133 = .ok (.invokevirtual 36, 3) := by decide +kernel
theorem dX12_tale_136 : decode cX12_tale 136 = .ok (.i2l, 1) := by decide +kernel
theorem dX12_tale_137 : decode cX12_tale 137 = .ok (.ladd, 1) := by decide +kernel
theorem dX12_tale_138 : decode cX12_tale 138 = .ok (.lstore_n 1, 1) := by decide +kernel
theorem dX12_tale_139 : decode cX12_tale 139 = .ok (.iinc 3 1, 3) := by decide +kernel
theorem dX12_tale_142 : decode cX12_tale 142 = .ok (.goto (-37), 3) := by decide +kernel
theorem dX12_tale_145 : decode cX12_tale 145 = .ok (.iconst 0, 1) := by decide +kernel
theorem dX12_tale_146 : decode cX12_tale 146 = .ok (.istore_n 3, 1) := by decide +kernel
theorem dX12_tale_147 : decode cX12_tale 147 = .ok (.iload_n 3, 1) := by decide +kernel
theorem dX12_tale_148 : decode cX12_tale 148 = .ok (.iconst 4, 1) := by decide +kernel
theorem dX12_tale_149 : decode cX12_tale 149 = .ok (.if_icmp .ge 22, 3) := by decide +kernel
theorem dX12_tale_152 : decode cX12_tale 152 = .ok (.lload_n 1, 1) := by decide +kernel
theorem dX12_tale_153 : decode cX12_tale 153 = .ok (.ldc2_w 41, 3) := by decide +kernel
theorem dX12_tale_156 : decode cX12_tale 156 = .ok (.lmul, 1) := by decide +kernel
theorem dX12_tale_157 : decode cX12_tale 157 = .ok (.aload_n 0, 1) := by decide +kernel
theorem dX12_tale_158 : decode cX12_tale 158 = .ok (.iload_n 3, 1) := by decide +kernel
theorem dX12_tale_159 : decode cX12_tale 159 = .ok (.invokevirtual 43, 3) := by decide +kernel
theorem dX12_tale_162 : decode cX12_tale 162 = .ok (.i2l, 1) := by decide +kernel
theorem dX12_tale_163 : decode cX12_tale 163 = .ok (.ladd, 1) := by decide +kernel
theorem dX12_tale_164 : decode cX12_tale 164 = .ok (.lstore_n 1, 1) := by decide +kernel
theorem dX12_tale_165 : decode cX12_tale 165 = .ok (.iinc 3 1, 3) := by decide +kernel
theorem dX12_tale_168 : decode cX12_tale 168 = .ok (.goto (-21), 3) := by decide +kernel
theorem dX12_tale_171 : decode cX12_tale 171 = .ok (.lload_n 1, 1) := by decide +kernel
theorem dX12_tale_172 : decode cX12_tale 172 = .ok (.ldc2_w 46, 3) := by decide +kernel
theorem dX12_tale_175 : decode cX12_tale 175 = .ok (.lmul, 1) := by decide +kernel
theorem dX12_tale_176 : decode cX12_tale 176 = .ok (.aload_n 0, 1) := by decide +kernel
theorem dX12_tale_177 : decode cX12_tale 177 = .ok (.invokevirtual 48, 3) := by decide +kernel
theorem dX12_tale_180 : decode cX12_tale 180 = .ok (.i2l, 1) := by decide +kernel
theorem dX12_tale_181 : decode cX12_tale 181 = .ok (.ldc2_w 51, 3) := by decide +kernel
theorem dX12_tale_184 : decode cX12_tale 184 = .ok (.lmul, 1) := by decide +kernel
theorem dX12_tale_185 : decode cX12_tale 185 = .ok (.ladd, 1) := by decide +kernel
theorem dX12_tale_186 : decode cX12_tale 186 = .ok (.aload_n 0, 1) := by decide +kernel
theorem dX12_tale_187 : decode cX12_tale 187 = .ok (.invokevirtual 53, 3) := by decide +kernel
theorem dX12_tale_190 : decode cX12_tale 190 = .ok (.i2l, 1) := by decide +kernel
theorem dX12_tale_191 : decode cX12_tale 191 = .ok (.ladd, 1) := by decide +kernel
theorem dX12_tale_192 : decode cX12_tale 192 = .ok (.aload_n 0, 1) := by decide +kernel
theorem dX12_tale_193 : decode cX12_tale 193 = .ok (.iconst 0, 1) := by decide +kernel
theorem dX12_tale_194 : decode cX12_tale 194 = .ok (.invokevirtual 56, 3) := by decide +kernel
theorem dX12_tale_197 : decode cX12_tale 197 = .ok (.i2l, 1) := by decide +kernel
theorem dX12_tale_198 : decode cX12_tale 198 = .ok (.ldc2_w 59, 3) := by decide +kernel
theorem dX12_tale_201 : decode cX12_tale 201 = .ok (.lmul, 1) := by decide +kernel
theorem dX12_tale_202 : decode cX12_tale 202 = .ok (.ladd, 1) := by decide +kernel
theorem dX12_tale_203 : decode cX12_tale 203 = .ok (.lreturn, 1) := by decide +kernel
abbrev rmX12_tale : Room := { frames := 7, cells := 0, slots := 0, locals := 280 }
abbrev sX12_tale (E : EV) : List AV → AH → (Option AV → AH → Prop) → Prop := Spec E yX12_tale cX12_tale 5 (some .long) rmX12_tale
theorem mX12_tale : Mt yX12_tale cX12_tale 5 (some .long) 1 := ⟨k572, k0, by decide +kernel⟩
theorem vX12_tale : MtS yX12_tale := k571
def PX12_tale_147 (E : EV) (post : Option AV → AH → Prop) (J147 : AH → Option Nat → Int64 → Int32 → Prop) (h : AH) (l0 : Option Nat) (l1 : Int64) (l3 : Int32) : Prop :=
  ((4 : Int32) ≤ l3 → CV (sX10_touchingPairs E) l0 10 [] h (kI fun x1 h2 => CV (sX10_closestPair E) l0 10 [] h2 (kI fun x3 h4 => CV (sX10_freePlaces E) l0 10 [aI (0 : Int32)] h4 (kI fun x5 h6 => post (some (aJ ((((l1 * (43 : Int64)) + (x1.toInt64 * (3 : Int64))) + x3.toInt64) + (x5.toInt64 * (5 : Int64))))) h6)))) ∧ (¬ (4 : Int32) ≤ l3 → CV (sX10_boundingBox E) l0 10 [aI l3] h (kI fun x1 h2 => ∀ v3, v3 = ((l1 * (41 : Int64)) + x1.toInt64) → J147 h2 l0 v3 (l3 + (1 : Int32))))
theorem bX12_tale_147 {E : EV} {X : AX} {post : Option AV → AH → Prop} (C : Cb E X cX12_tale RX12 5 rmX12_tale) (D : Cr E X (some .long) rmX12_tale "tale" post) {J147 : AH → Option Nat → Int64 → Int32 → Prop} (g147 : ∀ (h : AH) (l0 : Option Nat) (l1 : Int64) (l3 : Int32), J147 h l0 l1 l3 → Go E X 5 0 0 147 [(0, aP l0), (1, aJ l1), (3, aI l3)] [] h) {h : AH} {l0 : Option Nat} {l1 : Int64} {l3 : Int32} (w : PX12_tale_147 E post J147 h l0 l1 l3) : Go E X 5 0 0 147 [(0, aP l0), (1, aJ l1), (3, aI l3)] [] h := by
  unfold PX12_tale_147 at w
  refine r_iload_n C dX12_tale_147 rfl 2 rfl ?_
  refine r_iconst (v := 4) C dX12_tale_148 rfl ?_
  refine r_icmp_ge C dX12_tale_149 (tgt := 171) rfl (fun hc => ?_) (fun hc => ?_)
  · have w := w.1 hc
    refine r_lload_n C dX12_tale_171 rfl 1 rfl ?_
    refine r_ldc2 (v := 43) C dX12_tale_172 k621 ?_
    refine r_lmul C dX12_tale_175 ?_
    refine r_aload_n C dX12_tale_176 rfl 0 rfl ?_
    refine r_cvI (rm' := rmX10_touchingPairs) C mX10_touchingPairs vX10_touchingPairs k548 [] [aJ (l1 * (43 : Int64))] rfl rfl (Nat.le_of_ble_eq_true rfl) (by decide) ⟨Nat.zero_le _, Nat.zero_le _⟩ 0 0 rfl rfl dX12_tale_177 w (fun x1 h2 w => ?_)
    refine r_i2l C dX12_tale_180 ?_
    refine r_ldc2 (v := 3) C dX12_tale_181 k622 ?_
    refine r_lmul C dX12_tale_184 ?_
    refine r_ladd C dX12_tale_185 ?_
    refine r_aload_n C dX12_tale_186 rfl 0 rfl ?_
    refine r_cvI (rm' := rmX10_closestPair) C mX10_closestPair vX10_closestPair k623 [] [aJ ((l1 * (43 : Int64)) + (x1.toInt64 * (3 : Int64)))] rfl rfl (Nat.le_of_ble_eq_true rfl) (by decide) ⟨Nat.zero_le _, Nat.zero_le _⟩ 0 0 rfl rfl dX12_tale_187 w (fun x3 h4 w => ?_)
    refine r_i2l C dX12_tale_190 ?_
    refine r_ladd C dX12_tale_191 ?_
    refine r_aload_n C dX12_tale_192 rfl 0 rfl ?_
    refine r_iconst (v := 0) C dX12_tale_193 rfl ?_
    refine r_cvI (rm' := rmX10_freePlaces) C mX10_freePlaces vX10_freePlaces k629 [aI (0 : Int32)] [aJ (((l1 * (43 : Int64)) + (x1.toInt64 * (3 : Int64))) + x3.toInt64)] rfl rfl (Nat.le_of_ble_eq_true rfl) (by decide) ⟨Nat.zero_le _, Nat.zero_le _⟩ 0 0 rfl rfl dX12_tale_194 w (fun x5 h6 w => ?_)
    refine r_i2l C dX12_tale_197 ?_
    refine r_ldc2 (v := 5) C dX12_tale_198 k663 ?_
    refine r_lmul C dX12_tale_201 ?_
    refine r_ladd C dX12_tale_202 ?_
    exact r_lret C D rfl (Nat.zero_le _) (Nat.zero_le _) dX12_tale_203 w
  · have w := w.2 hc
    refine r_lload_n C dX12_tale_152 rfl 1 rfl ?_
    refine r_ldc2 (v := 41) C dX12_tale_153 k620 ?_
    refine r_lmul C dX12_tale_156 ?_
    refine r_aload_n C dX12_tale_157 rfl 0 rfl ?_
    refine r_iload_n C dX12_tale_158 rfl 2 rfl ?_
    refine r_cvI (rm' := rmX10_boundingBox) C mX10_boundingBox vX10_boundingBox k533 [aI l3] [aJ (l1 * (41 : Int64))] rfl rfl (Nat.le_of_ble_eq_true rfl) (by decide) ⟨Nat.zero_le _, Nat.zero_le _⟩ 0 0 rfl rfl dX12_tale_159 w (fun x1 h2 w => ?_)
    refine r_i2l C dX12_tale_162 ?_
    refine r_ladd C dX12_tale_163 ?_
    refine r_lstore_n C dX12_tale_164 rfl (by decide) rfl ?_
    have w := w _ rfl
    skip
    refine r_iinc C dX12_tale_165 2 rfl (v := 1) rfl (by decide) rfl ?_
    refine r_goto C dX12_tale_168 (tgt := 147) rfl ?_
    exact r_sub [2, 1, 0] rfl (g147 h2 l0 ((l1 * (41 : Int64)) + x1.toInt64) (l3 + (1 : Int32)) w)
theorem lpX12_tale_147 {E : EV} {X : AX} {post : Option AV → AH → Prop} (C : Cb E X cX12_tale RX12 5 rmX12_tale) (D : Cr E X (some .long) rmX12_tale "tale" post) (I : Nat → AH → Option Nat → Int64 → Int32 → Prop) (step : ∀ (z : Nat) (h : AH) (l0 : Option Nat) (l1 : Int64) (l3 : Int32), I z h l0 l1 l3 → PX12_tale_147 E post (fun h l0 l1 l3 => ∃ z', z' < z ∧ I z' h l0 l1 l3) h l0 l1 l3) : ∀ (z : Nat) (h : AH) (l0 : Option Nat) (l1 : Int64) (l3 : Int32), I z h l0 l1 l3 → Go E X 5 0 0 147 [(0, aP l0), (1, aJ l1), (3, aI l3)] [] h := by
  intro z
  induction z using Nat.strongRecOn with
  | _ z ih =>
    intro h l0 l1 l3 hI
    exact bX12_tale_147 C D (fun h l0 l1 l3 hJ => by obtain ⟨z', hz, hi⟩ := hJ; exact ih z' hz h l0 l1 l3 hi) (step z h l0 l1 l3 hI)
def PX12_tale_105 (E : EV) (post : Option AV → AH → Prop) (J105 : AH → Option Nat → Int64 → Int32 → Prop) (J147 : AH → Option Nat → Int64 → Int32 → Prop) (h : AH) (l0 : Option Nat) (l1 : Int64) (l3 : Int32) : Prop :=
  CV (sX10_itemCount E) l0 10 [] h (kI fun x1 h2 => (x1 ≤ l3 → J147 h2 l0 l1 (0 : Int32)) ∧ (¬ x1 ≤ l3 → CV (sX10_itemPlace E) l0 10 [aI l3, aI (0 : Int32)] h2 (kI fun x3 h4 => CV (sX10_itemPlace E) l0 10 [aI l3, aI (1 : Int32)] h4 (kI fun x5 h6 => ∀ v7, v7 = (((l1 * (37 : Int64)) + (x3.toInt64 * (101 : Int64))) + x5.toInt64) → J105 h6 l0 v7 (l3 + (1 : Int32))))))
theorem bX12_tale_105 {E : EV} {X : AX} {post : Option AV → AH → Prop} (C : Cb E X cX12_tale RX12 5 rmX12_tale) (D : Cr E X (some .long) rmX12_tale "tale" post) {J105 : AH → Option Nat → Int64 → Int32 → Prop} (g105 : ∀ (h : AH) (l0 : Option Nat) (l1 : Int64) (l3 : Int32), J105 h l0 l1 l3 → Go E X 5 0 0 105 [(0, aP l0), (1, aJ l1), (3, aI l3)] [] h) {J147 : AH → Option Nat → Int64 → Int32 → Prop} (g147 : ∀ (h : AH) (l0 : Option Nat) (l1 : Int64) (l3 : Int32), J147 h l0 l1 l3 → Go E X 5 0 0 147 [(0, aP l0), (1, aJ l1), (3, aI l3)] [] h) {h : AH} {l0 : Option Nat} {l1 : Int64} {l3 : Int32} (w : PX12_tale_105 E post J105 J147 h l0 l1 l3) : Go E X 5 0 0 105 [(0, aP l0), (1, aJ l1), (3, aI l3)] [] h := by
  unfold PX12_tale_105 at w
  refine r_iload_n C dX12_tale_105 rfl 2 rfl ?_
  refine r_aload_n C dX12_tale_106 rfl 0 rfl ?_
  refine r_cvI (rm' := rmX10_itemCount) C mX10_itemCount vX10_itemCount k390 [] [aI l3] rfl rfl (Nat.le_of_ble_eq_true rfl) (by decide) ⟨Nat.zero_le _, Nat.zero_le _⟩ 0 0 rfl rfl dX12_tale_107 w (fun x1 h2 w => ?_)
  refine r_icmp_ge C dX12_tale_110 (tgt := 145) rfl (fun hc => ?_) (fun hc => ?_)
  · have w := w.1 hc
    refine r_iconst (v := 0) C dX12_tale_145 rfl ?_
    refine r_istore_n C dX12_tale_146 rfl (by decide) rfl ?_
    exact r_sub [1, 2, 0] rfl (g147 h2 l0 l1 (0 : Int32) w)
  · have w := w.2 hc
    refine r_lload_n C dX12_tale_113 rfl 1 rfl ?_
    refine r_ldc2 (v := 37) C dX12_tale_114 k614 ?_
    refine r_lmul C dX12_tale_117 ?_
    refine r_aload_n C dX12_tale_118 rfl 0 rfl ?_
    refine r_iload_n C dX12_tale_119 rfl 2 rfl ?_
    refine r_iconst (v := 0) C dX12_tale_120 rfl ?_
    refine r_cvI (rm' := rmX10_itemPlace) C mX10_itemPlace vX10_itemPlace k615 [aI l3, aI (0 : Int32)] [aJ (l1 * (37 : Int64))] rfl rfl (Nat.le_of_ble_eq_true rfl) (by decide) ⟨Nat.zero_le _, Nat.zero_le _⟩ 0 0 rfl rfl dX12_tale_121 w (fun x3 h4 w => ?_)
    refine r_i2l C dX12_tale_124 ?_
    refine r_ldc2 (v := 101) C dX12_tale_125 k619 ?_
    refine r_lmul C dX12_tale_128 ?_
    refine r_ladd C dX12_tale_129 ?_
    refine r_aload_n C dX12_tale_130 rfl 0 rfl ?_
    refine r_iload_n C dX12_tale_131 rfl 2 rfl ?_
    refine r_iconst (v := 1) C dX12_tale_132 rfl ?_
    refine r_cvI (rm' := rmX10_itemPlace) C mX10_itemPlace vX10_itemPlace k615 [aI l3, aI (1 : Int32)] [aJ ((l1 * (37 : Int64)) + (x3.toInt64 * (101 : Int64)))] rfl rfl (Nat.le_of_ble_eq_true rfl) (by decide) ⟨Nat.zero_le _, Nat.zero_le _⟩ 0 0 rfl rfl dX12_tale_133 w (fun x5 h6 w => ?_)
    refine r_i2l C dX12_tale_136 ?_
    refine r_ladd C dX12_tale_137 ?_
    refine r_lstore_n C dX12_tale_138 rfl (by decide) rfl ?_
    have w := w _ rfl
    skip
    refine r_iinc C dX12_tale_139 2 rfl (v := 1) rfl (by decide) rfl ?_
    refine r_goto C dX12_tale_142 (tgt := 105) rfl ?_
    exact r_sub [2, 1, 0] rfl (g105 h6 l0 (((l1 * (37 : Int64)) + (x3.toInt64 * (101 : Int64))) + x5.toInt64) (l3 + (1 : Int32)) w)
theorem lpX12_tale_105 {E : EV} {X : AX} {post : Option AV → AH → Prop} (C : Cb E X cX12_tale RX12 5 rmX12_tale) (D : Cr E X (some .long) rmX12_tale "tale" post) {J147 : AH → Option Nat → Int64 → Int32 → Prop} (g147 : ∀ (h : AH) (l0 : Option Nat) (l1 : Int64) (l3 : Int32), J147 h l0 l1 l3 → Go E X 5 0 0 147 [(0, aP l0), (1, aJ l1), (3, aI l3)] [] h) (I : Nat → AH → Option Nat → Int64 → Int32 → Prop) (step : ∀ (z : Nat) (h : AH) (l0 : Option Nat) (l1 : Int64) (l3 : Int32), I z h l0 l1 l3 → PX12_tale_105 E post (fun h l0 l1 l3 => ∃ z', z' < z ∧ I z' h l0 l1 l3) J147 h l0 l1 l3) : ∀ (z : Nat) (h : AH) (l0 : Option Nat) (l1 : Int64) (l3 : Int32), I z h l0 l1 l3 → Go E X 5 0 0 105 [(0, aP l0), (1, aJ l1), (3, aI l3)] [] h := by
  intro z
  induction z using Nat.strongRecOn with
  | _ z ih =>
    intro h l0 l1 l3 hI
    exact bX12_tale_105 C D (fun h l0 l1 l3 hJ => by obtain ⟨z', hz, hi⟩ := hJ; exact ih z' hz h l0 l1 l3 hi) g147 (step z h l0 l1 l3 hI)
def PX12_tale_70 (E : EV) (post : Option AV → AH → Prop) (J18 : AH → Option Nat → Int64 → Int32 → Prop) (J70 : AH → Option Nat → Int64 → Int32 → Int32 → Prop) (h : AH) (l0 : Option Nat) (l1 : Int64) (l3 : Int32) (l4 : Int32) : Prop :=
  ((3 : Int32) ≤ l4 → J18 h l0 l1 (l3 + (1 : Int32))) ∧ (¬ (3 : Int32) ≤ l4 → CV (sX10_doubleArea E) l0 10 [aI l3, aI l4] h (kI fun x1 h2 => ∀ v3, v3 = ((l1 * (11 : Int64)) + x1.toInt64) → J70 h2 l0 v3 l3 (l4 + (1 : Int32))))
theorem bX12_tale_70 {E : EV} {X : AX} {post : Option AV → AH → Prop} (C : Cb E X cX12_tale RX12 5 rmX12_tale) (D : Cr E X (some .long) rmX12_tale "tale" post) {J18 : AH → Option Nat → Int64 → Int32 → Prop} (g18 : ∀ (h : AH) (l0 : Option Nat) (l1 : Int64) (l3 : Int32), J18 h l0 l1 l3 → Go E X 5 0 0 18 [(0, aP l0), (1, aJ l1), (3, aI l3)] [] h) {J70 : AH → Option Nat → Int64 → Int32 → Int32 → Prop} (g70 : ∀ (h : AH) (l0 : Option Nat) (l1 : Int64) (l3 : Int32) (l4 : Int32), J70 h l0 l1 l3 l4 → Go E X 5 0 0 70 [(0, aP l0), (1, aJ l1), (3, aI l3), (4, aI l4)] [] h) {h : AH} {l0 : Option Nat} {l1 : Int64} {l3 : Int32} {l4 : Int32} (w : PX12_tale_70 E post J18 J70 h l0 l1 l3 l4) : Go E X 5 0 0 70 [(0, aP l0), (1, aJ l1), (3, aI l3), (4, aI l4)] [] h := by
  unfold PX12_tale_70 at w
  refine r_iload C dX12_tale_70 3 rfl ?_
  refine r_iconst (v := 3) C dX12_tale_72 rfl ?_
  refine r_icmp_ge C dX12_tale_73 (tgt := 97) rfl (fun hc => ?_) (fun hc => ?_)
  · have w := w.1 hc
    refine r_iinc C dX12_tale_97 2 rfl (v := 1) rfl (by decide) rfl ?_
    refine r_goto C dX12_tale_100 (tgt := 18) rfl ?_
    exact r_sub [1, 2, 0] rfl (g18 h l0 l1 (l3 + (1 : Int32)) w)
  · have w := w.2 hc
    refine r_lload_n C dX12_tale_76 rfl 1 rfl ?_
    refine r_ldc2 (v := 11) C dX12_tale_77 k605 ?_
    refine r_lmul C dX12_tale_80 ?_
    refine r_aload_n C dX12_tale_81 rfl 0 rfl ?_
    refine r_iload_n C dX12_tale_82 rfl 2 rfl ?_
    refine r_iload C dX12_tale_83 3 rfl ?_
    refine r_cvI (rm' := rmX10_doubleArea) C mX10_doubleArea vX10_doubleArea k606 [aI l3, aI l4] [aJ (l1 * (11 : Int64))] rfl rfl (Nat.le_of_ble_eq_true rfl) (by decide) ⟨Nat.zero_le _, Nat.zero_le _⟩ 0 0 rfl rfl dX12_tale_85 w (fun x1 h2 w => ?_)
    refine r_i2l C dX12_tale_88 ?_
    refine r_ladd C dX12_tale_89 ?_
    refine r_lstore_n C dX12_tale_90 rfl (by decide) rfl ?_
    have w := w _ rfl
    skip
    refine r_iinc C dX12_tale_91 3 rfl (v := 1) rfl (by decide) rfl ?_
    refine r_goto C dX12_tale_94 (tgt := 70) rfl ?_
    exact r_sub [2, 1, 3, 0] rfl (g70 h2 l0 ((l1 * (11 : Int64)) + x1.toInt64) l3 (l4 + (1 : Int32)) w)
theorem lpX12_tale_70 {E : EV} {X : AX} {post : Option AV → AH → Prop} (C : Cb E X cX12_tale RX12 5 rmX12_tale) (D : Cr E X (some .long) rmX12_tale "tale" post) {J18 : AH → Option Nat → Int64 → Int32 → Prop} (g18 : ∀ (h : AH) (l0 : Option Nat) (l1 : Int64) (l3 : Int32), J18 h l0 l1 l3 → Go E X 5 0 0 18 [(0, aP l0), (1, aJ l1), (3, aI l3)] [] h) (I : Nat → AH → Option Nat → Int64 → Int32 → Int32 → Prop) (step : ∀ (z : Nat) (h : AH) (l0 : Option Nat) (l1 : Int64) (l3 : Int32) (l4 : Int32), I z h l0 l1 l3 l4 → PX12_tale_70 E post J18 (fun h l0 l1 l3 l4 => ∃ z', z' < z ∧ I z' h l0 l1 l3 l4) h l0 l1 l3 l4) : ∀ (z : Nat) (h : AH) (l0 : Option Nat) (l1 : Int64) (l3 : Int32) (l4 : Int32), I z h l0 l1 l3 l4 → Go E X 5 0 0 70 [(0, aP l0), (1, aJ l1), (3, aI l3), (4, aI l4)] [] h := by
  intro z
  induction z using Nat.strongRecOn with
  | _ z ih =>
    intro h l0 l1 l3 l4 hI
    exact bX12_tale_70 C D g18 (fun h l0 l1 l3 l4 hJ => by obtain ⟨z', hz, hi⟩ := hJ; exact ih z' hz h l0 l1 l3 l4 hi) (step z h l0 l1 l3 l4 hI)
def PX12_tale_39 (E : EV) (post : Option AV → AH → Prop) (J39 : AH → Option Nat → Int64 → Int32 → Int32 → Prop) (J70 : AH → Option Nat → Int64 → Int32 → Int32 → Prop) (h : AH) (l0 : Option Nat) (l1 : Int64) (l3 : Int32) (l4 : Int32) : Prop :=
  ((8 : Int32) ≤ l4 → J70 h l0 l1 l3 (0 : Int32)) ∧ (¬ (8 : Int32) ≤ l4 → CV (sX10_extent E) l0 10 [aI l3, aI l4] h (kI fun x1 h2 => ∀ v3, v3 = ((l1 * (7 : Int64)) + x1.toInt64) → J39 h2 l0 v3 l3 (l4 + (1 : Int32))))
theorem bX12_tale_39 {E : EV} {X : AX} {post : Option AV → AH → Prop} (C : Cb E X cX12_tale RX12 5 rmX12_tale) (D : Cr E X (some .long) rmX12_tale "tale" post) {J39 : AH → Option Nat → Int64 → Int32 → Int32 → Prop} (g39 : ∀ (h : AH) (l0 : Option Nat) (l1 : Int64) (l3 : Int32) (l4 : Int32), J39 h l0 l1 l3 l4 → Go E X 5 0 0 39 [(0, aP l0), (1, aJ l1), (3, aI l3), (4, aI l4)] [] h) {J70 : AH → Option Nat → Int64 → Int32 → Int32 → Prop} (g70 : ∀ (h : AH) (l0 : Option Nat) (l1 : Int64) (l3 : Int32) (l4 : Int32), J70 h l0 l1 l3 l4 → Go E X 5 0 0 70 [(0, aP l0), (1, aJ l1), (3, aI l3), (4, aI l4)] [] h) {h : AH} {l0 : Option Nat} {l1 : Int64} {l3 : Int32} {l4 : Int32} (w : PX12_tale_39 E post J39 J70 h l0 l1 l3 l4) : Go E X 5 0 0 39 [(0, aP l0), (1, aJ l1), (3, aI l3), (4, aI l4)] [] h := by
  unfold PX12_tale_39 at w
  refine r_iload C dX12_tale_39 3 rfl ?_
  refine r_bipush (v := 8) C dX12_tale_41 rfl ?_
  refine r_icmp_ge C dX12_tale_43 (tgt := 67) rfl (fun hc => ?_) (fun hc => ?_)
  · have w := w.1 hc
    refine r_iconst (v := 0) C dX12_tale_67 rfl ?_
    refine r_istore C dX12_tale_68 (by decide) rfl ?_
    exact r_sub [1, 2, 3, 0] rfl (g70 h l0 l1 l3 (0 : Int32) w)
  · have w := w.2 hc
    refine r_lload_n C dX12_tale_46 rfl 1 rfl ?_
    refine r_ldc2 (v := 7) C dX12_tale_47 k591 ?_
    refine r_lmul C dX12_tale_50 ?_
    refine r_aload_n C dX12_tale_51 rfl 0 rfl ?_
    refine r_iload_n C dX12_tale_52 rfl 2 rfl ?_
    refine r_iload C dX12_tale_53 3 rfl ?_
    refine r_cvI (rm' := rmX10_extent) C mX10_extent vX10_extent k592 [aI l3, aI l4] [aJ (l1 * (7 : Int64))] rfl rfl (Nat.le_of_ble_eq_true rfl) (by decide) ⟨Nat.zero_le _, Nat.zero_le _⟩ 0 0 rfl rfl dX12_tale_55 w (fun x1 h2 w => ?_)
    refine r_i2l C dX12_tale_58 ?_
    refine r_ladd C dX12_tale_59 ?_
    refine r_lstore_n C dX12_tale_60 rfl (by decide) rfl ?_
    have w := w _ rfl
    skip
    refine r_iinc C dX12_tale_61 3 rfl (v := 1) rfl (by decide) rfl ?_
    refine r_goto C dX12_tale_64 (tgt := 39) rfl ?_
    exact r_sub [2, 1, 3, 0] rfl (g39 h2 l0 ((l1 * (7 : Int64)) + x1.toInt64) l3 (l4 + (1 : Int32)) w)
theorem lpX12_tale_39 {E : EV} {X : AX} {post : Option AV → AH → Prop} (C : Cb E X cX12_tale RX12 5 rmX12_tale) (D : Cr E X (some .long) rmX12_tale "tale" post) {J70 : AH → Option Nat → Int64 → Int32 → Int32 → Prop} (g70 : ∀ (h : AH) (l0 : Option Nat) (l1 : Int64) (l3 : Int32) (l4 : Int32), J70 h l0 l1 l3 l4 → Go E X 5 0 0 70 [(0, aP l0), (1, aJ l1), (3, aI l3), (4, aI l4)] [] h) (I : Nat → AH → Option Nat → Int64 → Int32 → Int32 → Prop) (step : ∀ (z : Nat) (h : AH) (l0 : Option Nat) (l1 : Int64) (l3 : Int32) (l4 : Int32), I z h l0 l1 l3 l4 → PX12_tale_39 E post (fun h l0 l1 l3 l4 => ∃ z', z' < z ∧ I z' h l0 l1 l3 l4) J70 h l0 l1 l3 l4) : ∀ (z : Nat) (h : AH) (l0 : Option Nat) (l1 : Int64) (l3 : Int32) (l4 : Int32), I z h l0 l1 l3 l4 → Go E X 5 0 0 39 [(0, aP l0), (1, aJ l1), (3, aI l3), (4, aI l4)] [] h := by
  intro z
  induction z using Nat.strongRecOn with
  | _ z ih =>
    intro h l0 l1 l3 l4 hI
    exact bX12_tale_39 C D (fun h l0 l1 l3 l4 hJ => by obtain ⟨z', hz, hi⟩ := hJ; exact ih z' hz h l0 l1 l3 l4 hi) g70 (step z h l0 l1 l3 l4 hI)
def PX12_tale_18 (E : EV) (post : Option AV → AH → Prop) (J39 : AH → Option Nat → Int64 → Int32 → Int32 → Prop) (J105 : AH → Option Nat → Int64 → Int32 → Prop) (h : AH) (l0 : Option Nat) (l1 : Int64) (l3 : Int32) : Prop :=
  ((4 : Int32) ≤ l3 → J105 h l0 l1 (0 : Int32)) ∧ (¬ (4 : Int32) ≤ l3 → CV (sX10_pieceCount E) l0 10 [aI l3] h (kI fun x1 h2 => ∀ v3, v3 = ((l1 * (31 : Int64)) + x1.toInt64) → J39 h2 l0 v3 l3 (0 : Int32)))
theorem bX12_tale_18 {E : EV} {X : AX} {post : Option AV → AH → Prop} (C : Cb E X cX12_tale RX12 5 rmX12_tale) (D : Cr E X (some .long) rmX12_tale "tale" post) {J39 : AH → Option Nat → Int64 → Int32 → Int32 → Prop} (g39 : ∀ (h : AH) (l0 : Option Nat) (l1 : Int64) (l3 : Int32) (l4 : Int32), J39 h l0 l1 l3 l4 → Go E X 5 0 0 39 [(0, aP l0), (1, aJ l1), (3, aI l3), (4, aI l4)] [] h) {J105 : AH → Option Nat → Int64 → Int32 → Prop} (g105 : ∀ (h : AH) (l0 : Option Nat) (l1 : Int64) (l3 : Int32), J105 h l0 l1 l3 → Go E X 5 0 0 105 [(0, aP l0), (1, aJ l1), (3, aI l3)] [] h) {h : AH} {l0 : Option Nat} {l1 : Int64} {l3 : Int32} (w : PX12_tale_18 E post J39 J105 h l0 l1 l3) : Go E X 5 0 0 18 [(0, aP l0), (1, aJ l1), (3, aI l3)] [] h := by
  unfold PX12_tale_18 at w
  refine r_iload_n C dX12_tale_18 rfl 2 rfl ?_
  refine r_iconst (v := 4) C dX12_tale_19 rfl ?_
  refine r_icmp_ge C dX12_tale_20 (tgt := 103) rfl (fun hc => ?_) (fun hc => ?_)
  · have w := w.1 hc
    refine r_iconst (v := 0) C dX12_tale_103 rfl ?_
    refine r_istore_n C dX12_tale_104 rfl (by decide) rfl ?_
    exact r_sub [1, 2, 0] rfl (g105 h l0 l1 (0 : Int32) w)
  · have w := w.2 hc
    refine r_lload_n C dX12_tale_23 rfl 1 rfl ?_
    refine r_ldc2 (v := 31) C dX12_tale_24 k573 ?_
    refine r_lmul C dX12_tale_27 ?_
    refine r_aload_n C dX12_tale_28 rfl 0 rfl ?_
    refine r_iload_n C dX12_tale_29 rfl 2 rfl ?_
    refine r_cvI (rm' := rmX10_pieceCount) C mX10_pieceCount vX10_pieceCount k583 [aI l3] [aJ (l1 * (31 : Int64))] rfl rfl (Nat.le_of_ble_eq_true rfl) (by decide) ⟨Nat.zero_le _, Nat.zero_le _⟩ 0 0 rfl rfl dX12_tale_30 w (fun x1 h2 w => ?_)
    refine r_i2l C dX12_tale_33 ?_
    refine r_ladd C dX12_tale_34 ?_
    refine r_lstore_n C dX12_tale_35 rfl (by decide) rfl ?_
    have w := w _ rfl
    skip
    refine r_iconst (v := 0) C dX12_tale_36 rfl ?_
    refine r_istore C dX12_tale_37 (by decide) rfl ?_
    exact r_sub [2, 1, 3, 0] rfl (g39 h2 l0 ((l1 * (31 : Int64)) + x1.toInt64) l3 (0 : Int32) w)
def PX12_tale_0 (E : EV) (post : Option AV → AH → Prop) (J18 : AH → Option Nat → Int64 → Int32 → Prop) (h : AH) (l0 : Option Nat) : Prop :=
  CV (sX10_itemCount E) l0 10 [] h (kI fun x1 h2 => CV (sX10_packedDoubleArea E) l0 10 [] h2 (kI fun x3 h4 => ∀ v5, v5 = ((x1.toInt64 * (31 : Int64)) + x3.toInt64) → J18 h4 l0 v5 (0 : Int32)))
theorem bX12_tale_0 {E : EV} {X : AX} {post : Option AV → AH → Prop} (C : Cb E X cX12_tale RX12 5 rmX12_tale) (D : Cr E X (some .long) rmX12_tale "tale" post) {J18 : AH → Option Nat → Int64 → Int32 → Prop} (g18 : ∀ (h : AH) (l0 : Option Nat) (l1 : Int64) (l3 : Int32), J18 h l0 l1 l3 → Go E X 5 0 0 18 [(0, aP l0), (1, aJ l1), (3, aI l3)] [] h) {h : AH} {l0 : Option Nat} (w : PX12_tale_0 E post J18 h l0) : Go E X 5 0 0 0 [(0, aP l0)] [] h := by
  unfold PX12_tale_0 at w
  refine r_aload_n C dX12_tale_0 rfl 0 rfl ?_
  refine r_cvI (rm' := rmX10_itemCount) C mX10_itemCount vX10_itemCount k390 [] [] rfl rfl (Nat.le_of_ble_eq_true rfl) (by decide) ⟨Nat.zero_le _, Nat.zero_le _⟩ 0 0 rfl rfl dX12_tale_1 w (fun x1 h2 w => ?_)
  refine r_i2l C dX12_tale_4 ?_
  refine r_ldc2 (v := 31) C dX12_tale_5 k573 ?_
  refine r_lmul C dX12_tale_8 ?_
  refine r_aload_n C dX12_tale_9 rfl 0 rfl ?_
  refine r_cvI (rm' := rmX10_packedDoubleArea) C mX10_packedDoubleArea vX10_packedDoubleArea k574 [] [aJ (x1.toInt64 * (31 : Int64))] rfl rfl (Nat.le_of_ble_eq_true rfl) (by decide) ⟨Nat.zero_le _, Nat.zero_le _⟩ 0 0 rfl rfl dX12_tale_10 w (fun x3 h4 w => ?_)
  refine r_i2l C dX12_tale_13 ?_
  refine r_ladd C dX12_tale_14 ?_
  refine r_lstore_n C dX12_tale_15 rfl (by decide) rfl ?_
  have w := w _ rfl
  refine r_iconst (v := 0) C dX12_tale_16 rfl ?_
  refine r_istore_n C dX12_tale_17 rfl (by decide) rfl ?_
  exact r_sub [2, 1, 0] rfl (g18 h4 l0 ((x1.toInt64 * (31 : Int64)) + x3.toInt64) (0 : Int32) w)
theorem eX12_tale {E : EV} {post : Option AV → AH → Prop} {h : AH} {l0 : Option Nat} {J18 : AH → Option Nat → Int64 → Int32 → Prop} (g18 : ∀ X : AX, Cb E X cX12_tale RX12 5 rmX12_tale → Cr E X (some .long) rmX12_tale "tale" post → ∀ (h : AH) (l0 : Option Nat) (l1 : Int64) (l3 : Int32), J18 h l0 l1 l3 → Go E X 5 0 0 18 [(0, aP l0), (1, aJ l1), (3, aI l3)] [] h) (w : PX12_tale_0 E post J18 h l0) : sX12_tale E [aP l0] h post := Spec.of RX12 rfl rfl (Nat.le_of_ble_eq_true rfl) fun X C D => bX12_tale_0 C D (g18 X C D) w
theorem dX12_law_0 : decode cX12_law 0 = .ok (.new 9, 3) := by decide +kernel
theorem dX12_law_3 : decode cX12_law 3 = .ok (.dup, 1) := by decide +kernel
theorem dX12_law_4 : decode cX12_law 4 = .ok (.invokespecial 113, 3) := by decide +kernel
theorem dX12_law_7 : decode cX12_law 7 = .ok (.astore_n 1, 1) := by decide +kernel
theorem dX12_law_8 : decode cX12_law 8 = .ok (.aload_n 1, 1) := by decide +kernel
theorem dX12_law_9 : decode cX12_law 9 = .ok (.invokevirtual 114, 3) := by decide +kernel
theorem dX12_law_12 : decode cX12_law 12 = .ok (.ldc 117, 2) := by decide +kernel
theorem dX12_law_14 : decode cX12_law 14 = .ok (.if_icmp .ne 14, 3) := by decide +kernel
theorem dX12_law_17 : decode cX12_law 17 = .ok (.aload_n 1, 1) := by decide +kernel
theorem dX12_law_18 : decode cX12_law 18 = .ok (.bipush 15, 2) := by decide +kernel
theorem dX12_law_20 : decode cX12_law 20 = .ok (.bipush 15, 2) := by decide +kernel
theorem dX12_law_22 : decode cX12_law 22 = .ok (.invokevirtual 89, 3) := by decide +kernel
theorem dX12_law_25 : decode cX12_law 25 = .ok (.ifCond .eq 5, 3) := by decide +kernel
theorem dX12_law_28 : decode cX12_law 28 = .ok (.iconst 0, 1) := by decide +kernel
theorem dX12_law_29 : decode cX12_law 29 = .ok (.ireturn, 1) := by decide +kernel
theorem dX12_law_30 : decode cX12_law 30 = .ok (.iconst 1, 1) := by decide +kernel
theorem dX12_law_31 : decode cX12_law 31 = .ok (.istore_n 2, 1) := by decide +kernel
theorem dX12_law_32 : decode cX12_law 32 = .ok (.iconst 0, 1) := by decide +kernel
theorem dX12_law_33 : decode cX12_law 33 = .ok (.istore_n 3, 1) := by decide +kernel
theorem dX12_law_34 : decode cX12_law 34 = .ok (.iload_n 3, 1) := by decide +kernel
theorem dX12_law_35 : decode cX12_law 35 = .ok (.bipush 36, 2) := by decide +kernel
theorem dX12_law_37 : decode cX12_law 37 = .ok (.if_icmp .ge 259, 3) := by decide +kernel
theorem dX12_law_40 : decode cX12_law 40 = .ok (.aload_n 0, 1) := by decide +kernel
theorem dX12_law_41 : decode cX12_law 41 = .ok (.iload_n 3, 1) := by decide +kernel
theorem dX12_law_42 : decode cX12_law 42 = .ok (.invokestatic 118, 3) := by decide +kernel
theorem dX12_law_45 : decode cX12_law 45 = .ok (.istore 4, 2) := by decide +kernel
theorem dX12_law_47 : decode cX12_law 47 = .ok (.aload_n 1, 1) := by decide +kernel
theorem dX12_law_48 : decode cX12_law 48 = .ok (.invokestatic 122, 3) := by decide +kernel
theorem dX12_law_51 : decode cX12_law 51 = .ok (.lstore 5, 2) := by decide +kernel
theorem dX12_law_53 : decode cX12_law 53 = .ok (.aload_n 1, 1) := by decide +kernel
theorem dX12_law_54 : decode cX12_law 54 = .ok (.iload 4, 2) := by decide +kernel
theorem dX12_law_56 : decode cX12_law 56 = .ok (.invokestatic 126, 3) := by decide +kernel
theorem dX12_law_59 : decode cX12_law 59 = .ok (.istore 7, 2) := by decide +kernel
theorem dX12_law_61 : decode cX12_law 61 = .ok (.iload 7, 2) := by decide +kernel
theorem dX12_law_63 : decode cX12_law 63 = .ok (.ifCond .lt 7, 3) := by decide +kernel
theorem dX12_law_66 : decode cX12_law 66 = .ok (.iconst 1, 1) := by decide +kernel
theorem dX12_law_67 : decode cX12_law 67 = .ok (.goto 4, 3) := by decide +kernel
theorem dX12_law_70 : decode cX12_law 70 = .ok (.iconst 0, 1) := by decide +kernel
theorem dX12_law_71 : decode cX12_law 71 = .ok (.istore 8, 2) := by decide +kernel
theorem dX12_law_73 : decode cX12_law 73 = .ok (.iload 8, 2) := by decide +kernel
theorem dX12_law_75 : decode cX12_law 75 = .ok (.ifCond .ne 15, 3) := by decide +kernel
theorem dX12_law_78 : decode cX12_law 78 = .ok (.aload_n 1, 1) := by decide +kernel
theorem dX12_law_79 : decode cX12_law 79 = .ok (.invokestatic 122, 3) := by decide +kernel
theorem dX12_law_82 : decode cX12_law 82 = .ok (.lload 5, 2) := by decide +kernel
theorem dX12_law_84 : decode cX12_law 84 = .ok (.lcmp, 1) := by decide +kernel
theorem dX12_law_85 : decode cX12_law 85 = .ok (.ifCond .eq 5, 3) := by decide +kernel
theorem dX12_law_88 : decode cX12_law 88 = .ok (.iconst 0, 1) := by decide +kernel
theorem dX12_law_89 : decode cX12_law 89 = .ok (.ireturn, 1) := by decide +kernel
theorem dX12_law_90 : decode cX12_law 90 = .ok (.iload 8, 2) := by decide +kernel
theorem dX12_law_92 : decode cX12_law 92 = .ok (.ifCond .ne 7, 3) := by decide +kernel
theorem dX12_law_95 : decode cX12_law 95 = .ok (.iload_n 2, 1) := by decide +kernel
theorem dX12_law_96 : decode cX12_law 96 = .ok (.goto 17, 3) := by decide +kernel
theorem dX12_law_99 : decode cX12_law 99 = .ok (.iload_n 2, 1) := by decide +kernel
theorem dX12_law_100 : decode cX12_law 100 = .ok (.bipush 6, 2) := by decide +kernel
theorem dX12_law_102 : decode cX12_law 102 = .ok (.if_icmp .ge 9, 3) := by decide +kernel
theorem dX12_law_105 : decode cX12_law 105 = .ok (.iload_n 2, 1) := by decide +kernel
theorem dX12_law_106 : decode cX12_law 106 = .ok (.iconst 1, 1) := by decide +kernel
theorem dX12_law_107 : decode cX12_law 107 = .ok (.iadd, 1) := by decide +kernel
theorem dX12_law_108 : decode cX12_law 108 = .ok (.goto 5, 3) := by decide +kernel
theorem dX12_law_111 : decode cX12_law 111 = .ok (.bipush 6, 2) := by decide +kernel
theorem dX12_law_113 : decode cX12_law 113 = .ok (.istore_n 2, 1) := by decide +kernel
theorem dX12_law_114 : decode cX12_law 114 = .ok (.iconst 0, 1) := by decide +kernel
theorem dX12_law_115 : decode cX12_law 115 = .ok (.istore 9, 2) := by decide +kernel
theorem dX12_law_117 : decode cX12_law 117 = .ok (.iconst 0, 1) := by decide +kernel
theorem dX12_law_118 : decode cX12_law 118 = .ok (.istore 10, 2) := by decide +kernel
theorem dX12_law_120 : decode cX12_law 120 = .ok (.iload 10, 2) := by decide +kernel
theorem dX12_law_122 : decode cX12_law 122 = .ok (.aload_n 1, 1) := by decide +kernel
theorem dX12_law_123 : decode cX12_law 123 = .ok (.invokevirtual 8, 3) := by decide +kernel
theorem dX12_law_126 : decode cX12_law 126 = .ok (.if_icmp .ge 90, 3) := by decide +kernel
theorem dX12_law_129 : decode cX12_law 129 = .ok (.iload 10, 2) := by decide +kernel
theorem dX12_law_131 : decode cX12_law 131 = .ok (.iconst 1, 1) := by decide +kernel
theorem dX12_law_132 : decode cX12_law 132 = .ok (.iadd, 1) := by decide +kernel
theorem dX12_law_133 : decode cX12_law 133 = .ok (.istore 11, 2) := by decide +kernel
theorem dX12_law_135 : decode cX12_law 135 = .ok (.iload 11, 2) := by decide +kernel
theorem dX12_law_137 : decode cX12_law 137 = .ok (.aload_n 1, 1) := by decide +kernel
theorem dX12_law_138 : decode cX12_law 138 = .ok (.invokevirtual 8, 3) := by decide +kernel
theorem dX12_law_141 : decode cX12_law 141 = .ok (.if_icmp .ge 31, 3) := by decide +kernel
theorem dX12_law_144 : decode cX12_law 144 = .ok (.iload 9, 2) := by decide +kernel
theorem dX12_law_146 : decode cX12_law 146 = .ok (.aload_n 1, 1) := by decide +kernel
theorem dX12_law_147 : decode cX12_law 147 = .ok (.iload 10, 2) := by decide +kernel
theorem dX12_law_149 : decode cX12_law 149 = .ok (.iload 11, 2) := by decide +kernel
theorem dX12_law_151 : decode cX12_law 151 = .ok (.iconst 0, 1) := by decide +kernel
theorem dX12_law_152 : decode cX12_law 152 = .ok (.invokevirtual 130, 3) := by decide +kernel
theorem dX12_law_155 : decode cX12_law 155 = .ok (.ifCond .ne 7, 3) := by decide +kernel
theorem dX12_law_158 : decode cX12_law 158 = .ok (.iconst 1, 1) := by decide +kernel
theorem dX12_law_159 : decode cX12_law 159 = .ok (.goto 4, 3) := by decide +kernel
theorem dX12_law_162 : decode cX12_law 162 = .ok (.iconst 0, 1) := by decide +kernel
theorem dX12_law_163 : decode cX12_law 163 = .ok (.iadd, 1) := by decide +kernel
theorem dX12_law_164 : decode cX12_law 164 = .ok (.istore 9, 2) := by decide +kernel
theorem dX12_law_166 : decode cX12_law 166 = .ok (.iinc 11 1, 3) := by decide +kernel
theorem dX12_law_169 : decode cX12_law 169 = .ok (.goto (-34), 3) := by decide +kernel
theorem dX12_law_172 : decode cX12_law 172 = .ok (.iconst 0, 1) := by decide +kernel
theorem dX12_law_173 : decode cX12_law 173 = .ok (.istore 11, 2) := by decide +kernel
theorem dX12_law_175 : decode cX12_law 175 = .ok (.iload 11, 2) := by decide +kernel
theorem dX12_law_177 : decode cX12_law 177 = .ok (.bipush 8, 2) := by decide +kernel
theorem dX12_law_179 : decode cX12_law 179 = .ok (.if_icmp .ge 31, 3) := by decide +kernel
theorem dX12_law_182 : decode cX12_law 182 = .ok (.aload_n 1, 1) := by decide +kernel
theorem dX12_law_183 : decode cX12_law 183 = .ok (.invokevirtual 8, 3) := by decide +kernel
theorem dX12_law_186 : decode cX12_law 186 = .ok (.iconst 1, 1) := by decide +kernel
theorem dX12_law_187 : decode cX12_law 187 = .ok (.if_icmp .ne 17, 3) := by decide +kernel
theorem dX12_law_190 : decode cX12_law 190 = .ok (.aload_n 1, 1) := by decide +kernel
theorem dX12_law_191 : decode cX12_law 191 = .ok (.iload 10, 2) := by decide +kernel
theorem dX12_law_193 : decode cX12_law 193 = .ok (.iload 11, 2) := by decide +kernel
theorem dX12_law_195 : decode cX12_law 195 = .ok (.invokevirtual 133, 3) := by decide +kernel
theorem dX12_law_198 : decode cX12_law 198 = .ok (.iconst 1, 1) := by decide +kernel
theorem dX12_law_199 : decode cX12_law 199 = .ok (.if_icmp .eq 5, 3) := by decide +kernel
theorem dX12_law_202 : decode cX12_law 202 = .ok (.iconst 0, 1) := by decide +kernel
theorem dX12_law_203 : decode cX12_law 203 = .ok (.ireturn, 1) := by decide +kernel
theorem dX12_law_204 : decode cX12_law 204 = .ok (.iinc 11 2, 3) := by decide +kernel
theorem dX12_law_207 : decode cX12_law 207 = .ok (.goto (-32), 3) := by decide +kernel
theorem dX12_law_210 : decode cX12_law 210 = .ok (.iinc 10 1, 3) := by decide +kernel
theorem dX12_law_213 : decode cX12_law 213 = .ok (.goto (-93), 3) := by decide +kernel
theorem dX12_law_216 : decode cX12_law 216 = .ok (.iload 9, 2) := by decide +kernel
theorem dX12_law_218 : decode cX12_law 218 = .ok (.aload_n 1, 1) := by decide +kernel
theorem dX12_law_219 : decode cX12_law 219 = .ok (.invokevirtual 48, 3) := by decide +kernel
theorem dX12_law_222 : decode cX12_law 222 = .ok (.if_icmp .ne 26, 3) := by decide +kernel
theorem dX12_law_225 : decode cX12_law 225 = .ok (.aload_n 1, 1) := by decide +kernel
theorem dX12_law_226 : decode cX12_law 226 = .ok (.invokevirtual 8, 3) := by decide +kernel
theorem dX12_law_229 : decode cX12_law 229 = .ok (.ifCond .le 21, 3) := by decide +kernel
theorem dX12_law_232 : decode cX12_law 232 = .ok (.aload_n 1, 1) := by decide +kernel
theorem dX12_law_233 : decode cX12_law 233 = .ok (.iconst 0, 1) := by decide +kernel
theorem dX12_law_234 : decode cX12_law 234 = .ok (.invokevirtual 43, 3) := by decide +kernel
theorem dX12_law_237 : decode cX12_law 237 = .ok (.ifCond .lt 11, 3) := by decide +kernel
theorem dX12_law_240 : decode cX12_law 240 = .ok (.aload_n 1, 1) := by decide +kernel
theorem dX12_law_241 : decode cX12_law 241 = .ok (.iconst 1, 1) := by decide +kernel
theorem dX12_law_242 : decode cX12_law 242 = .ok (.invokevirtual 43, 3) := by decide +kernel
theorem dX12_law_245 : decode cX12_law 245 = .ok (.ifCond .ge 5, 3) := by decide +kernel
theorem dX12_law_248 : decode cX12_law 248 = .ok (.iconst 0, 1) := by decide +kernel
theorem dX12_law_249 : decode cX12_law 249 = .ok (.ireturn, 1) := by decide +kernel
theorem dX12_law_250 : decode cX12_law 250 = .ok (.iload 8, 2) := by decide +kernel
theorem dX12_law_252 : decode cX12_law 252 = .ok (.ifCond .eq 38, 3) := by decide +kernel
theorem dX12_law_255 : decode cX12_law 255 = .ok (.iload 4, 2) := by decide +kernel
theorem dX12_law_257 : decode cX12_law 257 = .ok (.bipush 26, 2) := by decide +kernel
theorem dX12_law_259 : decode cX12_law 259 = .ok (.ishr, 1) := by decide +kernel
theorem dX12_law_260 : decode cX12_law 260 = .ok (.iconst 3, 1) := by decide +kernel
theorem dX12_law_261 : decode cX12_law 261 = .ok (.iand, 1) := by decide +kernel
theorem dX12_law_262 : decode cX12_law 262 = .ok (.ifCond .ne 28, 3) := by decide +kernel
theorem dX12_law_265 : decode cX12_law 265 = .ok (.aload_n 1, 1) := by decide +kernel
theorem dX12_law_266 : decode cX12_law 266 = .ok (.invokevirtual 114, 3) := by decide +kernel
theorem dX12_law_269 : decode cX12_law 269 = .ok (.iload_n 2, 1) := by decide +kernel
theorem dX12_law_270 : decode cX12_law 270 = .ok (.iconst 1, 1) := by decide +kernel
theorem dX12_law_271 : decode cX12_law 271 = .ok (.isub, 1) := by decide +kernel
theorem dX12_law_272 : decode cX12_law 272 = .ok (.if_icmp .ne 13, 3) := by decide +kernel
theorem dX12_law_275 : decode cX12_law 275 = .ok (.aload_n 1, 1) := by decide +kernel
theorem dX12_law_276 : decode cX12_law 276 = .ok (.invokestatic 122, 3) := by decide +kernel
theorem dX12_law_279 : decode cX12_law 279 = .ok (.lload 5, 2) := by decide +kernel
theorem dX12_law_281 : decode cX12_law 281 = .ok (.lcmp, 1) := by decide +kernel
theorem dX12_law_282 : decode cX12_law 282 = .ok (.ifCond .eq 5, 3) := by decide +kernel
theorem dX12_law_285 : decode cX12_law 285 = .ok (.iconst 0, 1) := by decide +kernel
theorem dX12_law_286 : decode cX12_law 286 = .ok (.ireturn, 1) := by decide +kernel
theorem dX12_law_287 : decode cX12_law 287 = .ok (.iinc 2 (-1), 3) := by decide +kernel
theorem dX12_law_290 : decode cX12_law 290 = .ok (.iinc 3 1, 3) := by decide +kernel
theorem dX12_law_293 : decode cX12_law 293 = .ok (.goto (-259), 3) := by decide +kernel
theorem dX12_law_296 : decode cX12_law 296 = .ok (.iconst 1, 1) := by decide +kernel
theorem dX12_law_297 : decode cX12_law 297 = .ok (.ireturn, 1) := by decide +kernel
def PX12_law_250 (E : EV) (post : Option AV → AH → Prop) (J34 : Nat → Nat → AH → Option Nat → Int32 → Int32 → Prop) (k : Nat) (n : Nat) (h : AH) (l1 : Option Nat) (l2 : Int32) (l3 : Int32) (l4 : Int32) (l5 : Int64) (l8 : Int32) : Prop :=
  (l8 = 0 → J34 k n h l1 l2 (l3 + (1 : Int32))) ∧ (¬ l8 = 0 → (¬ ((l4 >>> ((26 : Int32) &&& 31)) &&& (3 : Int32)) = 0 → J34 k n h l1 l2 (l3 + (1 : Int32))) ∧ (((l4 >>> ((26 : Int32) &&& 31)) &&& (3 : Int32)) = 0 → (k ≤ 600000 ∧ n ≤ 7302249) ∧ CV (sX10_undo E) l1 10 [] h (kI fun x1 h2 => (¬ x1 = (l2 - (1 : Int32)) → False) ∧ (x1 = (l2 - (1 : Int32)) → (k ≤ 600000 ∧ n ≤ 7302249) ∧ CS (sX12_tale E) [aP l1] h2 (kJ fun x3 h4 => ((lg_cmp x3 l5) = 0 → J34 k n h4 l1 (l2 + (-1 : Int32)) (l3 + (1 : Int32))) ∧ (¬ (lg_cmp x3 l5) = 0 → False))))))
theorem bX12_law_250 {E : EV} {X : AX} {post : Option AV → AH → Prop} (C : Cb E X cX12_law RX12 12 rmX12_law) (D : Lw E X) {J34 : Nat → Nat → AH → Option Nat → Int32 → Int32 → Prop} (g34 : ∀ (k n : Nat) (h : AH) (l1 : Option Nat) (l2 : Int32) (l3 : Int32), J34 k n h l1 l2 l3 → Go E X 12 k n 34 [(1, aP l1), (2, aI l2), (3, aI l3)] [] h) {k n : Nat} {h : AH} {l1 : Option Nat} {l2 : Int32} {l3 : Int32} {l4 : Int32} {l5 : Int64} {l8 : Int32} (w : PX12_law_250 E post J34 k n h l1 l2 l3 l4 l5 l8) : Go E X 12 k n 250 [(1, aP l1), (2, aI l2), (3, aI l3), (4, aI l4), (5, aJ l5), (8, aI l8)] [] h := by
  unfold PX12_law_250 at w
  refine r_iload C dX12_law_250 5 rfl ?_
  refine r_if_eq C dX12_law_252 (tgt := 290) rfl (fun hc => ?_) (fun hc => ?_)
  · have w := w.1 hc
    refine r_iinc C dX12_law_290 2 rfl (v := 1) rfl (by decide) rfl ?_
    refine r_goto C dX12_law_293 (tgt := 34) rfl ?_
    exact r_sub [1, 2, 0] rfl (g34 k n h l1 l2 (l3 + (1 : Int32)) w)
  · have w := w.2 hc
    refine r_iload C dX12_law_255 3 rfl ?_
    refine r_bipush (v := 26) C dX12_law_257 rfl ?_
    refine r_ishr C dX12_law_259 ?_
    refine r_iconst (v := 3) C dX12_law_260 rfl ?_
    refine r_iand C dX12_law_261 ?_
    refine r_if_ne C dX12_law_262 (tgt := 290) rfl (fun hc => ?_) (fun hc => ?_)
    · have w := w.1 hc
      refine r_iinc C dX12_law_290 2 rfl (v := 1) rfl (by decide) rfl ?_
      refine r_goto C dX12_law_293 (tgt := 34) rfl ?_
      exact r_sub [1, 2, 0] rfl (g34 k n h l1 l2 (l3 + (1 : Int32)) w)
    · have w := w.2 hc
      refine r_aload_n C dX12_law_265 rfl 0 rfl ?_
      refine r_cvI (rm' := rmX10_undo) C mX10_undo vX10_undo k558 [] [] rfl rfl (Nat.le_of_ble_eq_true rfl) (by decide) w.1 k n rfl rfl dX12_law_266 w.2 (fun x1 h2 w => ?_)
      refine r_iload_n C dX12_law_269 rfl 1 rfl ?_
      refine r_iconst (v := 1) C dX12_law_270 rfl ?_
      refine r_isub C dX12_law_271 ?_
      refine r_icmp_ne C dX12_law_272 (tgt := 285) rfl (fun hc => ?_) (fun hc => ?_)
      · have w := w.1 hc
        refine r_iconst (v := 0) C dX12_law_285 rfl ?_
        exact w.elim
      · have w := w.2 hc
        refine r_aload_n C dX12_law_275 rfl 0 rfl ?_
        refine r_csJ (rm' := rmX12_tale) C mX12_tale vX12_tale k570 [aP l1] [] rfl rfl (Nat.le_of_ble_eq_true rfl) (by decide) w.1 k n rfl rfl dX12_law_276 w.2 (fun x3 h4 w => ?_)
        refine r_lload C dX12_law_279 4 rfl ?_
        refine r_lcmp C dX12_law_281 ?_
        refine r_if_eq C dX12_law_282 (tgt := 287) rfl (fun hc => ?_) (fun hc => ?_)
        · have w := w.1 hc
          refine r_iinc C dX12_law_287 1 rfl (v := -1) rfl (by decide) rfl ?_
          refine r_iinc C dX12_law_290 2 rfl (v := 1) rfl (by decide) rfl ?_
          refine r_goto C dX12_law_293 (tgt := 34) rfl ?_
          exact r_sub [2, 1, 0] rfl (g34 k n h4 l1 (l2 + (-1 : Int32)) (l3 + (1 : Int32)) w)
        · have w := w.2 hc
          refine r_iconst (v := 0) C dX12_law_285 rfl ?_
          exact w.elim
def PX12_law_175 (E : EV) (post : Option AV → AH → Prop) (J120 : Nat → Nat → AH → Option Nat → Int32 → Int32 → Int32 → Int64 → Int32 → Int32 → Int32 → Prop) (J175 : Nat → Nat → AH → Option Nat → Int32 → Int32 → Int32 → Int64 → Int32 → Int32 → Int32 → Int32 → Prop) (k : Nat) (n : Nat) (h : AH) (l1 : Option Nat) (l2 : Int32) (l3 : Int32) (l4 : Int32) (l5 : Int64) (l8 : Int32) (l9 : Int32) (l10 : Int32) (l11 : Int32) : Prop :=
  ((8 : Int32) ≤ l11 → J120 k n h l1 l2 l3 l4 l5 l8 l9 (l10 + (1 : Int32))) ∧ (¬ (8 : Int32) ≤ l11 → (k ≤ 600000 ∧ n ≤ 7302249) ∧ CV (sX10_itemCount E) l1 10 [] h (kI fun x1 h2 => (¬ x1 = (1 : Int32) → J175 k n h2 l1 l2 l3 l4 l5 l8 l9 l10 (l11 + (2 : Int32))) ∧ (x1 = (1 : Int32) → (k ≤ 600000 ∧ n ≤ 7302249) ∧ CV (sX10_escapes E) l1 10 [aI l10, aI l11] h2 (kI fun x3 h4 => (x3 = (1 : Int32) → J175 k n h4 l1 l2 l3 l4 l5 l8 l9 l10 (l11 + (2 : Int32))) ∧ (¬ x3 = (1 : Int32) → False)))))
theorem bX12_law_175 {E : EV} {X : AX} {post : Option AV → AH → Prop} (C : Cb E X cX12_law RX12 12 rmX12_law) (D : Lw E X) {J120 : Nat → Nat → AH → Option Nat → Int32 → Int32 → Int32 → Int64 → Int32 → Int32 → Int32 → Prop} (g120 : ∀ (k n : Nat) (h : AH) (l1 : Option Nat) (l2 : Int32) (l3 : Int32) (l4 : Int32) (l5 : Int64) (l8 : Int32) (l9 : Int32) (l10 : Int32), J120 k n h l1 l2 l3 l4 l5 l8 l9 l10 → Go E X 12 k n 120 [(1, aP l1), (2, aI l2), (3, aI l3), (4, aI l4), (5, aJ l5), (8, aI l8), (9, aI l9), (10, aI l10)] [] h) {J175 : Nat → Nat → AH → Option Nat → Int32 → Int32 → Int32 → Int64 → Int32 → Int32 → Int32 → Int32 → Prop} (g175 : ∀ (k n : Nat) (h : AH) (l1 : Option Nat) (l2 : Int32) (l3 : Int32) (l4 : Int32) (l5 : Int64) (l8 : Int32) (l9 : Int32) (l10 : Int32) (l11 : Int32), J175 k n h l1 l2 l3 l4 l5 l8 l9 l10 l11 → Go E X 12 k n 175 [(1, aP l1), (2, aI l2), (3, aI l3), (4, aI l4), (5, aJ l5), (8, aI l8), (9, aI l9), (10, aI l10), (11, aI l11)] [] h) {k n : Nat} {h : AH} {l1 : Option Nat} {l2 : Int32} {l3 : Int32} {l4 : Int32} {l5 : Int64} {l8 : Int32} {l9 : Int32} {l10 : Int32} {l11 : Int32} (w : PX12_law_175 E post J120 J175 k n h l1 l2 l3 l4 l5 l8 l9 l10 l11) : Go E X 12 k n 175 [(1, aP l1), (2, aI l2), (3, aI l3), (4, aI l4), (5, aJ l5), (8, aI l8), (9, aI l9), (10, aI l10), (11, aI l11)] [] h := by
  unfold PX12_law_175 at w
  refine r_iload C dX12_law_175 8 rfl ?_
  refine r_bipush (v := 8) C dX12_law_177 rfl ?_
  refine r_icmp_ge C dX12_law_179 (tgt := 210) rfl (fun hc => ?_) (fun hc => ?_)
  · have w := w.1 hc
    refine r_iinc C dX12_law_210 7 rfl (v := 1) rfl (by decide) rfl ?_
    refine r_goto C dX12_law_213 (tgt := 120) rfl ?_
    exact r_sub [1, 2, 3, 4, 5, 6, 7, 0] rfl (g120 k n h l1 l2 l3 l4 l5 l8 l9 (l10 + (1 : Int32)) w)
  · have w := w.2 hc
    refine r_aload_n C dX12_law_182 rfl 0 rfl ?_
    refine r_cvI (rm' := rmX10_itemCount) C mX10_itemCount vX10_itemCount k390 [] [] rfl rfl (Nat.le_of_ble_eq_true rfl) (by decide) w.1 k n rfl rfl dX12_law_183 w.2 (fun x1 h2 w => ?_)
    refine r_iconst (v := 1) C dX12_law_186 rfl ?_
    refine r_icmp_ne C dX12_law_187 (tgt := 204) rfl (fun hc => ?_) (fun hc => ?_)
    · have w := w.1 hc
      refine r_iinc C dX12_law_204 8 rfl (v := 2) rfl (by decide) rfl ?_
      refine r_goto C dX12_law_207 (tgt := 175) rfl ?_
      exact r_sub [1, 2, 3, 4, 5, 6, 7, 8, 0] rfl (g175 k n h2 l1 l2 l3 l4 l5 l8 l9 l10 (l11 + (2 : Int32)) w)
    · have w := w.2 hc
      refine r_aload_n C dX12_law_190 rfl 0 rfl ?_
      refine r_iload C dX12_law_191 7 rfl ?_
      refine r_iload C dX12_law_193 8 rfl ?_
      refine r_cvI (rm' := rmX10_escapes) C mX10_escapes vX10_escapes k500 [aI l10, aI l11] [] rfl rfl (Nat.le_of_ble_eq_true rfl) (by decide) w.1 k n rfl rfl dX12_law_195 w.2 (fun x3 h4 w => ?_)
      refine r_iconst (v := 1) C dX12_law_198 rfl ?_
      refine r_icmp_eq C dX12_law_199 (tgt := 204) rfl (fun hc => ?_) (fun hc => ?_)
      · have w := w.1 hc
        refine r_iinc C dX12_law_204 8 rfl (v := 2) rfl (by decide) rfl ?_
        refine r_goto C dX12_law_207 (tgt := 175) rfl ?_
        exact r_sub [1, 2, 3, 4, 5, 6, 7, 8, 0] rfl (g175 k n h4 l1 l2 l3 l4 l5 l8 l9 l10 (l11 + (2 : Int32)) w)
      · have w := w.2 hc
        refine r_iconst (v := 0) C dX12_law_202 rfl ?_
        exact w.elim
theorem lpX12_law_175 {E : EV} {X : AX} {post : Option AV → AH → Prop} (C : Cb E X cX12_law RX12 12 rmX12_law) (D : Lw E X) {J120 : Nat → Nat → AH → Option Nat → Int32 → Int32 → Int32 → Int64 → Int32 → Int32 → Int32 → Prop} (g120 : ∀ (k n : Nat) (h : AH) (l1 : Option Nat) (l2 : Int32) (l3 : Int32) (l4 : Int32) (l5 : Int64) (l8 : Int32) (l9 : Int32) (l10 : Int32), J120 k n h l1 l2 l3 l4 l5 l8 l9 l10 → Go E X 12 k n 120 [(1, aP l1), (2, aI l2), (3, aI l3), (4, aI l4), (5, aJ l5), (8, aI l8), (9, aI l9), (10, aI l10)] [] h) (I : Nat → Nat → Nat → AH → Option Nat → Int32 → Int32 → Int32 → Int64 → Int32 → Int32 → Int32 → Int32 → Prop) (step : ∀ (z : Nat) (k n : Nat) (h : AH) (l1 : Option Nat) (l2 : Int32) (l3 : Int32) (l4 : Int32) (l5 : Int64) (l8 : Int32) (l9 : Int32) (l10 : Int32) (l11 : Int32), I z k n h l1 l2 l3 l4 l5 l8 l9 l10 l11 → PX12_law_175 E post J120 (fun k n h l1 l2 l3 l4 l5 l8 l9 l10 l11 => ∃ z', z' < z ∧ I z' k n h l1 l2 l3 l4 l5 l8 l9 l10 l11) k n h l1 l2 l3 l4 l5 l8 l9 l10 l11) : ∀ (z : Nat) (k n : Nat) (h : AH) (l1 : Option Nat) (l2 : Int32) (l3 : Int32) (l4 : Int32) (l5 : Int64) (l8 : Int32) (l9 : Int32) (l10 : Int32) (l11 : Int32), I z k n h l1 l2 l3 l4 l5 l8 l9 l10 l11 → Go E X 12 k n 175 [(1, aP l1), (2, aI l2), (3, aI l3), (4, aI l4), (5, aJ l5), (8, aI l8), (9, aI l9), (10, aI l10), (11, aI l11)] [] h := by
  intro z
  induction z using Nat.strongRecOn with
  | _ z ih =>
    intro k n h l1 l2 l3 l4 l5 l8 l9 l10 l11 hI
    exact bX12_law_175 C D g120 (fun k n h l1 l2 l3 l4 l5 l8 l9 l10 l11 hJ => by obtain ⟨z', hz, hi⟩ := hJ; exact ih z' hz k n h l1 l2 l3 l4 l5 l8 l9 l10 l11 hi) (step z k n h l1 l2 l3 l4 l5 l8 l9 l10 l11 hI)
def PX12_law_163 (E : EV) (post : Option AV → AH → Prop) (J135 : Nat → Nat → AH → Option Nat → Int32 → Int32 → Int32 → Int64 → Int32 → Int32 → Int32 → Int32 → Prop) (k : Nat) (n : Nat) (h : AH) (l1 : Option Nat) (l2 : Int32) (l3 : Int32) (l4 : Int32) (l5 : Int64) (l8 : Int32) (l10 : Int32) (l11 : Int32) (s0 : Int32) (s1 : Int32) : Prop :=
  ∀ v1, v1 = (s0 + s1) → J135 k n h l1 l2 l3 l4 l5 l8 v1 l10 (l11 + (1 : Int32))
theorem bX12_law_163 {E : EV} {X : AX} {post : Option AV → AH → Prop} (C : Cb E X cX12_law RX12 12 rmX12_law) (D : Lw E X) {J135 : Nat → Nat → AH → Option Nat → Int32 → Int32 → Int32 → Int64 → Int32 → Int32 → Int32 → Int32 → Prop} (g135 : ∀ (k n : Nat) (h : AH) (l1 : Option Nat) (l2 : Int32) (l3 : Int32) (l4 : Int32) (l5 : Int64) (l8 : Int32) (l9 : Int32) (l10 : Int32) (l11 : Int32), J135 k n h l1 l2 l3 l4 l5 l8 l9 l10 l11 → Go E X 12 k n 135 [(1, aP l1), (2, aI l2), (3, aI l3), (4, aI l4), (5, aJ l5), (8, aI l8), (9, aI l9), (10, aI l10), (11, aI l11)] [] h) {k n : Nat} {h : AH} {l1 : Option Nat} {l2 : Int32} {l3 : Int32} {l4 : Int32} {l5 : Int64} {l8 : Int32} {l10 : Int32} {l11 : Int32} {s0 : Int32} {s1 : Int32} (w : PX12_law_163 E post J135 k n h l1 l2 l3 l4 l5 l8 l10 l11 s0 s1) : Go E X 12 k n 163 [(1, aP l1), (2, aI l2), (3, aI l3), (4, aI l4), (5, aJ l5), (8, aI l8), (10, aI l10), (11, aI l11)] [aI s1, aI s0] h := by
  unfold PX12_law_163 at w
  refine r_iadd C dX12_law_163 ?_
  refine r_istore C dX12_law_164 (by decide) rfl ?_
  have w := w _ rfl
  refine r_iinc C dX12_law_166 8 rfl (v := 1) rfl (by decide) rfl ?_
  refine r_goto C dX12_law_169 (tgt := 135) rfl ?_
  exact r_sub [2, 3, 4, 5, 6, 7, 1, 8, 0] rfl (g135 k n h l1 l2 l3 l4 l5 l8 (s0 + s1) l10 (l11 + (1 : Int32)) w)
def PX12_law_135 (E : EV) (post : Option AV → AH → Prop) (J135 : Nat → Nat → AH → Option Nat → Int32 → Int32 → Int32 → Int64 → Int32 → Int32 → Int32 → Int32 → Prop) (J175 : Nat → Nat → AH → Option Nat → Int32 → Int32 → Int32 → Int64 → Int32 → Int32 → Int32 → Int32 → Prop) (k : Nat) (n : Nat) (h : AH) (l1 : Option Nat) (l2 : Int32) (l3 : Int32) (l4 : Int32) (l5 : Int64) (l8 : Int32) (l9 : Int32) (l10 : Int32) (l11 : Int32) : Prop :=
  (k ≤ 600000 ∧ n ≤ 7302249) ∧ CV (sX10_itemCount E) l1 10 [] h (kI fun x1 h2 => (x1 ≤ l11 → J175 k n h2 l1 l2 l3 l4 l5 l8 l9 l10 (0 : Int32)) ∧ (¬ x1 ≤ l11 → (k ≤ 600000 ∧ n ≤ 7302249) ∧ CV (sX10_itemGap E) l1 10 [aI l10, aI l11, aI (0 : Int32)] h2 (kI fun x3 h4 => (¬ x3 = 0 → PX12_law_163 E post J135 k n h4 l1 l2 l3 l4 l5 l8 l10 l11 l9 (0 : Int32)) ∧ (x3 = 0 → PX12_law_163 E post J135 k n h4 l1 l2 l3 l4 l5 l8 l10 l11 l9 (1 : Int32)))))
theorem bX12_law_135 {E : EV} {X : AX} {post : Option AV → AH → Prop} (C : Cb E X cX12_law RX12 12 rmX12_law) (D : Lw E X) {J135 : Nat → Nat → AH → Option Nat → Int32 → Int32 → Int32 → Int64 → Int32 → Int32 → Int32 → Int32 → Prop} (g135 : ∀ (k n : Nat) (h : AH) (l1 : Option Nat) (l2 : Int32) (l3 : Int32) (l4 : Int32) (l5 : Int64) (l8 : Int32) (l9 : Int32) (l10 : Int32) (l11 : Int32), J135 k n h l1 l2 l3 l4 l5 l8 l9 l10 l11 → Go E X 12 k n 135 [(1, aP l1), (2, aI l2), (3, aI l3), (4, aI l4), (5, aJ l5), (8, aI l8), (9, aI l9), (10, aI l10), (11, aI l11)] [] h) {J175 : Nat → Nat → AH → Option Nat → Int32 → Int32 → Int32 → Int64 → Int32 → Int32 → Int32 → Int32 → Prop} (g175 : ∀ (k n : Nat) (h : AH) (l1 : Option Nat) (l2 : Int32) (l3 : Int32) (l4 : Int32) (l5 : Int64) (l8 : Int32) (l9 : Int32) (l10 : Int32) (l11 : Int32), J175 k n h l1 l2 l3 l4 l5 l8 l9 l10 l11 → Go E X 12 k n 175 [(1, aP l1), (2, aI l2), (3, aI l3), (4, aI l4), (5, aJ l5), (8, aI l8), (9, aI l9), (10, aI l10), (11, aI l11)] [] h) {k n : Nat} {h : AH} {l1 : Option Nat} {l2 : Int32} {l3 : Int32} {l4 : Int32} {l5 : Int64} {l8 : Int32} {l9 : Int32} {l10 : Int32} {l11 : Int32} (w : PX12_law_135 E post J135 J175 k n h l1 l2 l3 l4 l5 l8 l9 l10 l11) : Go E X 12 k n 135 [(1, aP l1), (2, aI l2), (3, aI l3), (4, aI l4), (5, aJ l5), (8, aI l8), (9, aI l9), (10, aI l10), (11, aI l11)] [] h := by
  unfold PX12_law_135 at w
  refine r_iload C dX12_law_135 8 rfl ?_
  refine r_aload_n C dX12_law_137 rfl 0 rfl ?_
  refine r_cvI (rm' := rmX10_itemCount) C mX10_itemCount vX10_itemCount k390 [] [aI l11] rfl rfl (Nat.le_of_ble_eq_true rfl) (by decide) w.1 k n rfl rfl dX12_law_138 w.2 (fun x1 h2 w => ?_)
  refine r_icmp_ge C dX12_law_141 (tgt := 172) rfl (fun hc => ?_) (fun hc => ?_)
  · have w := w.1 hc
    refine r_iconst (v := 0) C dX12_law_172 rfl ?_
    refine r_istore C dX12_law_173 (by decide) rfl ?_
    exact r_sub [1, 2, 3, 4, 5, 6, 7, 8, 0] rfl (g175 k n h2 l1 l2 l3 l4 l5 l8 l9 l10 (0 : Int32) w)
  · have w := w.2 hc
    refine r_iload C dX12_law_144 6 rfl ?_
    refine r_aload_n C dX12_law_146 rfl 0 rfl ?_
    refine r_iload C dX12_law_147 7 rfl ?_
    refine r_iload C dX12_law_149 8 rfl ?_
    refine r_iconst (v := 0) C dX12_law_151 rfl ?_
    refine r_cvI (rm' := rmX10_itemGap) C mX10_itemGap vX10_itemGap k394 [aI l10, aI l11, aI (0 : Int32)] [aI l9] rfl rfl (Nat.le_of_ble_eq_true rfl) (by decide) w.1 k n rfl rfl dX12_law_152 w.2 (fun x3 h4 w => ?_)
    refine r_if_ne C dX12_law_155 (tgt := 162) rfl (fun hc => ?_) (fun hc => ?_)
    · have w := w.1 hc
      refine r_iconst (v := 0) C dX12_law_162 rfl ?_
      exact r_sub [0, 1, 2, 3, 4, 5, 7, 8] rfl (bX12_law_163 C D g135 w)
    · have w := w.2 hc
      refine r_iconst (v := 1) C dX12_law_158 rfl ?_
      refine r_goto C dX12_law_159 (tgt := 163) rfl ?_
      exact r_sub [0, 1, 2, 3, 4, 5, 7, 8] rfl (bX12_law_163 C D g135 w)
theorem lpX12_law_135 {E : EV} {X : AX} {post : Option AV → AH → Prop} (C : Cb E X cX12_law RX12 12 rmX12_law) (D : Lw E X) {J175 : Nat → Nat → AH → Option Nat → Int32 → Int32 → Int32 → Int64 → Int32 → Int32 → Int32 → Int32 → Prop} (g175 : ∀ (k n : Nat) (h : AH) (l1 : Option Nat) (l2 : Int32) (l3 : Int32) (l4 : Int32) (l5 : Int64) (l8 : Int32) (l9 : Int32) (l10 : Int32) (l11 : Int32), J175 k n h l1 l2 l3 l4 l5 l8 l9 l10 l11 → Go E X 12 k n 175 [(1, aP l1), (2, aI l2), (3, aI l3), (4, aI l4), (5, aJ l5), (8, aI l8), (9, aI l9), (10, aI l10), (11, aI l11)] [] h) (I : Nat → Nat → Nat → AH → Option Nat → Int32 → Int32 → Int32 → Int64 → Int32 → Int32 → Int32 → Int32 → Prop) (step : ∀ (z : Nat) (k n : Nat) (h : AH) (l1 : Option Nat) (l2 : Int32) (l3 : Int32) (l4 : Int32) (l5 : Int64) (l8 : Int32) (l9 : Int32) (l10 : Int32) (l11 : Int32), I z k n h l1 l2 l3 l4 l5 l8 l9 l10 l11 → PX12_law_135 E post (fun k n h l1 l2 l3 l4 l5 l8 l9 l10 l11 => ∃ z', z' < z ∧ I z' k n h l1 l2 l3 l4 l5 l8 l9 l10 l11) J175 k n h l1 l2 l3 l4 l5 l8 l9 l10 l11) : ∀ (z : Nat) (k n : Nat) (h : AH) (l1 : Option Nat) (l2 : Int32) (l3 : Int32) (l4 : Int32) (l5 : Int64) (l8 : Int32) (l9 : Int32) (l10 : Int32) (l11 : Int32), I z k n h l1 l2 l3 l4 l5 l8 l9 l10 l11 → Go E X 12 k n 135 [(1, aP l1), (2, aI l2), (3, aI l3), (4, aI l4), (5, aJ l5), (8, aI l8), (9, aI l9), (10, aI l10), (11, aI l11)] [] h := by
  intro z
  induction z using Nat.strongRecOn with
  | _ z ih =>
    intro k n h l1 l2 l3 l4 l5 l8 l9 l10 l11 hI
    exact bX12_law_135 C D (fun k n h l1 l2 l3 l4 l5 l8 l9 l10 l11 hJ => by obtain ⟨z', hz, hi⟩ := hJ; exact ih z' hz k n h l1 l2 l3 l4 l5 l8 l9 l10 l11 hi) g175 (step z k n h l1 l2 l3 l4 l5 l8 l9 l10 l11 hI)
def PX12_law_120 (E : EV) (post : Option AV → AH → Prop) (J34 : Nat → Nat → AH → Option Nat → Int32 → Int32 → Prop) (J135 : Nat → Nat → AH → Option Nat → Int32 → Int32 → Int32 → Int64 → Int32 → Int32 → Int32 → Int32 → Prop) (k : Nat) (n : Nat) (h : AH) (l1 : Option Nat) (l2 : Int32) (l3 : Int32) (l4 : Int32) (l5 : Int64) (l8 : Int32) (l9 : Int32) (l10 : Int32) : Prop :=
  (k ≤ 600000 ∧ n ≤ 7302249) ∧ CV (sX10_itemCount E) l1 10 [] h (kI fun x1 h2 => (x1 ≤ l10 → (k ≤ 600000 ∧ n ≤ 7302249) ∧ CV (sX10_touchingPairs E) l1 10 [] h2 (kI fun x3 h4 => (¬ l9 = x3 → False) ∧ (l9 = x3 → (k ≤ 600000 ∧ n ≤ 7302249) ∧ CV (sX10_itemCount E) l1 10 [] h4 (kI fun x5 h6 => (x5 ≤ 0 → PX12_law_250 E post J34 k n h6 l1 l2 l3 l4 l5 l8) ∧ (¬ x5 ≤ 0 → (k ≤ 600000 ∧ n ≤ 7302249) ∧ CV (sX10_boundingBox E) l1 10 [aI (0 : Int32)] h6 (kI fun x7 h8 => (x7 < 0 → False) ∧ (¬ x7 < 0 → (k ≤ 600000 ∧ n ≤ 7302249) ∧ CV (sX10_boundingBox E) l1 10 [aI (1 : Int32)] h8 (kI fun x9 h10 => (0 ≤ x9 → PX12_law_250 E post J34 k n h10 l1 l2 l3 l4 l5 l8) ∧ (¬ 0 ≤ x9 → False))))))))) ∧ (¬ x1 ≤ l10 → ∀ v3, v3 = (l10 + (1 : Int32)) → J135 k n h2 l1 l2 l3 l4 l5 l8 l9 l10 v3))
theorem bX12_law_120 {E : EV} {X : AX} {post : Option AV → AH → Prop} (C : Cb E X cX12_law RX12 12 rmX12_law) (D : Lw E X) {J34 : Nat → Nat → AH → Option Nat → Int32 → Int32 → Prop} (g34 : ∀ (k n : Nat) (h : AH) (l1 : Option Nat) (l2 : Int32) (l3 : Int32), J34 k n h l1 l2 l3 → Go E X 12 k n 34 [(1, aP l1), (2, aI l2), (3, aI l3)] [] h) {J135 : Nat → Nat → AH → Option Nat → Int32 → Int32 → Int32 → Int64 → Int32 → Int32 → Int32 → Int32 → Prop} (g135 : ∀ (k n : Nat) (h : AH) (l1 : Option Nat) (l2 : Int32) (l3 : Int32) (l4 : Int32) (l5 : Int64) (l8 : Int32) (l9 : Int32) (l10 : Int32) (l11 : Int32), J135 k n h l1 l2 l3 l4 l5 l8 l9 l10 l11 → Go E X 12 k n 135 [(1, aP l1), (2, aI l2), (3, aI l3), (4, aI l4), (5, aJ l5), (8, aI l8), (9, aI l9), (10, aI l10), (11, aI l11)] [] h) {k n : Nat} {h : AH} {l1 : Option Nat} {l2 : Int32} {l3 : Int32} {l4 : Int32} {l5 : Int64} {l8 : Int32} {l9 : Int32} {l10 : Int32} (w : PX12_law_120 E post J34 J135 k n h l1 l2 l3 l4 l5 l8 l9 l10) : Go E X 12 k n 120 [(1, aP l1), (2, aI l2), (3, aI l3), (4, aI l4), (5, aJ l5), (8, aI l8), (9, aI l9), (10, aI l10)] [] h := by
  unfold PX12_law_120 at w
  refine r_iload C dX12_law_120 7 rfl ?_
  refine r_aload_n C dX12_law_122 rfl 0 rfl ?_
  refine r_cvI (rm' := rmX10_itemCount) C mX10_itemCount vX10_itemCount k390 [] [aI l10] rfl rfl (Nat.le_of_ble_eq_true rfl) (by decide) w.1 k n rfl rfl dX12_law_123 w.2 (fun x1 h2 w => ?_)
  refine r_icmp_ge C dX12_law_126 (tgt := 216) rfl (fun hc => ?_) (fun hc => ?_)
  · have w := w.1 hc
    refine r_iload C dX12_law_216 6 rfl ?_
    refine r_aload_n C dX12_law_218 rfl 0 rfl ?_
    refine r_cvI (rm' := rmX10_touchingPairs) C mX10_touchingPairs vX10_touchingPairs k548 [] [aI l9] rfl rfl (Nat.le_of_ble_eq_true rfl) (by decide) w.1 k n rfl rfl dX12_law_219 w.2 (fun x3 h4 w => ?_)
    refine r_icmp_ne C dX12_law_222 (tgt := 248) rfl (fun hc => ?_) (fun hc => ?_)
    · have w := w.1 hc
      refine r_iconst (v := 0) C dX12_law_248 rfl ?_
      exact w.elim
    · have w := w.2 hc
      refine r_aload_n C dX12_law_225 rfl 0 rfl ?_
      refine r_cvI (rm' := rmX10_itemCount) C mX10_itemCount vX10_itemCount k390 [] [] rfl rfl (Nat.le_of_ble_eq_true rfl) (by decide) w.1 k n rfl rfl dX12_law_226 w.2 (fun x5 h6 w => ?_)
      refine r_if_le C dX12_law_229 (tgt := 250) rfl (fun hc => ?_) (fun hc => ?_)
      · have w := w.1 hc
        exact r_sub [0, 1, 2, 3, 4, 5] rfl (bX12_law_250 C D g34 w)
      · have w := w.2 hc
        refine r_aload_n C dX12_law_232 rfl 0 rfl ?_
        refine r_iconst (v := 0) C dX12_law_233 rfl ?_
        refine r_cvI (rm' := rmX10_boundingBox) C mX10_boundingBox vX10_boundingBox k533 [aI (0 : Int32)] [] rfl rfl (Nat.le_of_ble_eq_true rfl) (by decide) w.1 k n rfl rfl dX12_law_234 w.2 (fun x7 h8 w => ?_)
        refine r_if_lt C dX12_law_237 (tgt := 248) rfl (fun hc => ?_) (fun hc => ?_)
        · have w := w.1 hc
          refine r_iconst (v := 0) C dX12_law_248 rfl ?_
          exact w.elim
        · have w := w.2 hc
          refine r_aload_n C dX12_law_240 rfl 0 rfl ?_
          refine r_iconst (v := 1) C dX12_law_241 rfl ?_
          refine r_cvI (rm' := rmX10_boundingBox) C mX10_boundingBox vX10_boundingBox k533 [aI (1 : Int32)] [] rfl rfl (Nat.le_of_ble_eq_true rfl) (by decide) w.1 k n rfl rfl dX12_law_242 w.2 (fun x9 h10 w => ?_)
          refine r_if_ge C dX12_law_245 (tgt := 250) rfl (fun hc => ?_) (fun hc => ?_)
          · have w := w.1 hc
            exact r_sub [0, 1, 2, 3, 4, 5] rfl (bX12_law_250 C D g34 w)
          · have w := w.2 hc
            refine r_iconst (v := 0) C dX12_law_248 rfl ?_
            exact w.elim
  · have w := w.2 hc
    refine r_iload C dX12_law_129 7 rfl ?_
    refine r_iconst (v := 1) C dX12_law_131 rfl ?_
    refine r_iadd C dX12_law_132 ?_
    refine r_istore C dX12_law_133 (by decide) rfl ?_
    have w := w _ rfl
    skip
    exact r_sub [1, 2, 3, 4, 5, 6, 7, 8, 0] rfl (g135 k n h2 l1 l2 l3 l4 l5 l8 l9 l10 (l10 + (1 : Int32)) w)
def PX12_law_113 (E : EV) (post : Option AV → AH → Prop) (J120 : Nat → Nat → AH → Option Nat → Int32 → Int32 → Int32 → Int64 → Int32 → Int32 → Int32 → Prop) (k : Nat) (n : Nat) (h : AH) (l1 : Option Nat) (l3 : Int32) (l4 : Int32) (l5 : Int64) (l8 : Int32) (s0 : Int32) : Prop :=
  J120 k n h l1 s0 l3 l4 l5 l8 (0 : Int32) (0 : Int32)
theorem bX12_law_113 {E : EV} {X : AX} {post : Option AV → AH → Prop} (C : Cb E X cX12_law RX12 12 rmX12_law) (D : Lw E X) {J120 : Nat → Nat → AH → Option Nat → Int32 → Int32 → Int32 → Int64 → Int32 → Int32 → Int32 → Prop} (g120 : ∀ (k n : Nat) (h : AH) (l1 : Option Nat) (l2 : Int32) (l3 : Int32) (l4 : Int32) (l5 : Int64) (l8 : Int32) (l9 : Int32) (l10 : Int32), J120 k n h l1 l2 l3 l4 l5 l8 l9 l10 → Go E X 12 k n 120 [(1, aP l1), (2, aI l2), (3, aI l3), (4, aI l4), (5, aJ l5), (8, aI l8), (9, aI l9), (10, aI l10)] [] h) {k n : Nat} {h : AH} {l1 : Option Nat} {l3 : Int32} {l4 : Int32} {l5 : Int64} {l8 : Int32} {s0 : Int32} (w : PX12_law_113 E post J120 k n h l1 l3 l4 l5 l8 s0) : Go E X 12 k n 113 [(1, aP l1), (3, aI l3), (4, aI l4), (5, aJ l5), (8, aI l8)] [aI s0] h := by
  unfold PX12_law_113 at w
  refine r_istore_n C dX12_law_113 rfl (by decide) rfl ?_
  refine r_iconst (v := 0) C dX12_law_114 rfl ?_
  refine r_istore C dX12_law_115 (by decide) rfl ?_
  refine r_iconst (v := 0) C dX12_law_117 rfl ?_
  refine r_istore C dX12_law_118 (by decide) rfl ?_
  exact r_sub [3, 2, 4, 5, 6, 7, 1, 0] rfl (g120 k n h l1 s0 l3 l4 l5 l8 (0 : Int32) (0 : Int32) w)
def PX12_law_90 (E : EV) (post : Option AV → AH → Prop) (J120 : Nat → Nat → AH → Option Nat → Int32 → Int32 → Int32 → Int64 → Int32 → Int32 → Int32 → Prop) (k : Nat) (n : Nat) (h : AH) (l1 : Option Nat) (l2 : Int32) (l3 : Int32) (l4 : Int32) (l5 : Int64) (l8 : Int32) : Prop :=
  (¬ l8 = 0 → ((6 : Int32) ≤ l2 → PX12_law_113 E post J120 k n h l1 l3 l4 l5 l8 (6 : Int32)) ∧ (¬ (6 : Int32) ≤ l2 → PX12_law_113 E post J120 k n h l1 l3 l4 l5 l8 (l2 + (1 : Int32)))) ∧ (l8 = 0 → PX12_law_113 E post J120 k n h l1 l3 l4 l5 l8 l2)
theorem bX12_law_90 {E : EV} {X : AX} {post : Option AV → AH → Prop} (C : Cb E X cX12_law RX12 12 rmX12_law) (D : Lw E X) {J120 : Nat → Nat → AH → Option Nat → Int32 → Int32 → Int32 → Int64 → Int32 → Int32 → Int32 → Prop} (g120 : ∀ (k n : Nat) (h : AH) (l1 : Option Nat) (l2 : Int32) (l3 : Int32) (l4 : Int32) (l5 : Int64) (l8 : Int32) (l9 : Int32) (l10 : Int32), J120 k n h l1 l2 l3 l4 l5 l8 l9 l10 → Go E X 12 k n 120 [(1, aP l1), (2, aI l2), (3, aI l3), (4, aI l4), (5, aJ l5), (8, aI l8), (9, aI l9), (10, aI l10)] [] h) {k n : Nat} {h : AH} {l1 : Option Nat} {l2 : Int32} {l3 : Int32} {l4 : Int32} {l5 : Int64} {l8 : Int32} (w : PX12_law_90 E post J120 k n h l1 l2 l3 l4 l5 l8) : Go E X 12 k n 90 [(1, aP l1), (2, aI l2), (3, aI l3), (4, aI l4), (5, aJ l5), (8, aI l8)] [] h := by
  unfold PX12_law_90 at w
  refine r_iload C dX12_law_90 5 rfl ?_
  refine r_if_ne C dX12_law_92 (tgt := 99) rfl (fun hc => ?_) (fun hc => ?_)
  · have w := w.1 hc
    refine r_iload_n C dX12_law_99 rfl 1 rfl ?_
    refine r_bipush (v := 6) C dX12_law_100 rfl ?_
    refine r_icmp_ge C dX12_law_102 (tgt := 111) rfl (fun hc => ?_) (fun hc => ?_)
    · have w := w.1 hc
      refine r_bipush (v := 6) C dX12_law_111 rfl ?_
      exact r_sub [0, 2, 3, 4, 5] rfl (bX12_law_113 C D g120 w)
    · have w := w.2 hc
      refine r_iload_n C dX12_law_105 rfl 1 rfl ?_
      refine r_iconst (v := 1) C dX12_law_106 rfl ?_
      refine r_iadd C dX12_law_107 ?_
      refine r_goto C dX12_law_108 (tgt := 113) rfl ?_
      exact r_sub [0, 2, 3, 4, 5] rfl (bX12_law_113 C D g120 w)
  · have w := w.2 hc
    refine r_iload_n C dX12_law_95 rfl 1 rfl ?_
    refine r_goto C dX12_law_96 (tgt := 113) rfl ?_
    exact r_sub [0, 2, 3, 4, 5] rfl (bX12_law_113 C D g120 w)
def PX12_law_71 (E : EV) (post : Option AV → AH → Prop) (J120 : Nat → Nat → AH → Option Nat → Int32 → Int32 → Int32 → Int64 → Int32 → Int32 → Int32 → Prop) (k : Nat) (n : Nat) (h : AH) (l1 : Option Nat) (l2 : Int32) (l3 : Int32) (l4 : Int32) (l5 : Int64) (s0 : Int32) : Prop :=
  (¬ s0 = 0 → PX12_law_90 E post J120 k n h l1 l2 l3 l4 l5 s0) ∧ (s0 = 0 → (k ≤ 600000 ∧ n ≤ 7302249) ∧ CS (sX12_tale E) [aP l1] h (kJ fun x2 h3 => ((lg_cmp x2 l5) = 0 → PX12_law_90 E post J120 k n h3 l1 l2 l3 l4 l5 s0) ∧ (¬ (lg_cmp x2 l5) = 0 → False)))
theorem bX12_law_71 {E : EV} {X : AX} {post : Option AV → AH → Prop} (C : Cb E X cX12_law RX12 12 rmX12_law) (D : Lw E X) {J120 : Nat → Nat → AH → Option Nat → Int32 → Int32 → Int32 → Int64 → Int32 → Int32 → Int32 → Prop} (g120 : ∀ (k n : Nat) (h : AH) (l1 : Option Nat) (l2 : Int32) (l3 : Int32) (l4 : Int32) (l5 : Int64) (l8 : Int32) (l9 : Int32) (l10 : Int32), J120 k n h l1 l2 l3 l4 l5 l8 l9 l10 → Go E X 12 k n 120 [(1, aP l1), (2, aI l2), (3, aI l3), (4, aI l4), (5, aJ l5), (8, aI l8), (9, aI l9), (10, aI l10)] [] h) {k n : Nat} {h : AH} {l1 : Option Nat} {l2 : Int32} {l3 : Int32} {l4 : Int32} {l5 : Int64} {s0 : Int32} (w : PX12_law_71 E post J120 k n h l1 l2 l3 l4 l5 s0) : Go E X 12 k n 71 [(1, aP l1), (2, aI l2), (3, aI l3), (4, aI l4), (5, aJ l5)] [aI s0] h := by
  unfold PX12_law_71 at w
  refine r_istore C dX12_law_71 (by decide) rfl ?_
  refine r_iload C dX12_law_73 0 rfl ?_
  refine r_if_ne C dX12_law_75 (tgt := 90) rfl (fun hc => ?_) (fun hc => ?_)
  · have w := w.1 hc
    exact r_sub [1, 2, 3, 4, 5, 0] rfl (bX12_law_90 C D g120 w)
  · have w := w.2 hc
    refine r_aload_n C dX12_law_78 rfl 1 rfl ?_
    refine r_csJ (rm' := rmX12_tale) C mX12_tale vX12_tale k570 [aP l1] [] rfl rfl (Nat.le_of_ble_eq_true rfl) (by decide) w.1 k n rfl rfl dX12_law_79 w.2 (fun x2 h3 w => ?_)
    refine r_lload C dX12_law_82 5 rfl ?_
    refine r_lcmp C dX12_law_84 ?_
    refine r_if_eq C dX12_law_85 (tgt := 90) rfl (fun hc => ?_) (fun hc => ?_)
    · have w := w.1 hc
      exact r_sub [1, 2, 3, 4, 5, 0] rfl (bX12_law_90 C D g120 w)
    · have w := w.2 hc
      refine r_iconst (v := 0) C dX12_law_88 rfl ?_
      exact w.elim
def PX12_law_34 (E : EV) (post : Option AV → AH → Prop) (J120 : Nat → Nat → AH → Option Nat → Int32 → Int32 → Int32 → Int64 → Int32 → Int32 → Int32 → Prop) (k : Nat) (n : Nat) (h : AH) (l1 : Option Nat) (l2 : Int32) (l3 : Int32) : Prop :=
  ((36 : Int32) ≤ l3 → k ≤ 600000 ∧ n ≤ 7302249) ∧ (¬ (36 : Int32) ≤ l3 → (¬ l3 < 0 ∧ k ≤ 600000 ∧ n ≤ 7302249) ∧ (∀ v1 : Int32, (k ≤ 600000 ∧ n ≤ 7302249) ∧ CS (sX12_tale E) [aP l1] h (kJ fun x3 h4 => (k + 4 ≤ 600000 ∧ n + 50 ≤ 7302249) ∧ CS (sX12_does E) [aP l1, aI v1] h4 (kI fun x6 h7 => (x6 < 0 → PX12_law_71 E post J120 (k + 4) (n + 50) h7 l1 l2 l3 v1 x3 (0 : Int32)) ∧ (¬ x6 < 0 → PX12_law_71 E post J120 (k + 4) (n + 50) h7 l1 l2 l3 v1 x3 (1 : Int32))))))
theorem bX12_law_34 {E : EV} {X : AX} {post : Option AV → AH → Prop} (C : Cb E X cX12_law RX12 12 rmX12_law) (D : Lw E X) {J120 : Nat → Nat → AH → Option Nat → Int32 → Int32 → Int32 → Int64 → Int32 → Int32 → Int32 → Prop} (g120 : ∀ (k n : Nat) (h : AH) (l1 : Option Nat) (l2 : Int32) (l3 : Int32) (l4 : Int32) (l5 : Int64) (l8 : Int32) (l9 : Int32) (l10 : Int32), J120 k n h l1 l2 l3 l4 l5 l8 l9 l10 → Go E X 12 k n 120 [(1, aP l1), (2, aI l2), (3, aI l3), (4, aI l4), (5, aJ l5), (8, aI l8), (9, aI l9), (10, aI l10)] [] h) {k n : Nat} {h : AH} {l1 : Option Nat} {l2 : Int32} {l3 : Int32} (w : PX12_law_34 E post J120 k n h l1 l2 l3) : Go E X 12 k n 34 [(1, aP l1), (2, aI l2), (3, aI l3)] [] h := by
  unfold PX12_law_34 at w
  refine r_iload_n C dX12_law_34 rfl 2 rfl ?_
  refine r_bipush (v := 36) C dX12_law_35 rfl ?_
  refine r_icmp_ge C dX12_law_37 (tgt := 296) rfl (fun hc => ?_) (fun hc => ?_)
  · have w := w.1 hc
    refine r_iconst (v := 1) C dX12_law_296 rfl ?_
    exact r_lawret C D w.1 w.2 dX12_law_297
  · have w := w.2 hc
    refine r_cell C D dX12_law_40 rfl dX12_law_41 rfl 2 rfl dX12_law_42 k567 (Nat.le_of_ble_eq_true rfl) (by decide) w.1.1 w.1.2 (fun v1 => ?_)
    have w := w.2 v1
    refine r_istore C dX12_law_45 (by decide) rfl ?_
    refine r_aload_n C dX12_law_47 rfl 1 rfl ?_
    refine r_csJ (rm' := rmX12_tale) C mX12_tale vX12_tale k570 [aP l1] [] rfl rfl (Nat.le_of_ble_eq_true rfl) (by decide) w.1 k n rfl rfl dX12_law_48 w.2 (fun x3 h4 w => ?_)
    refine r_lstore C dX12_law_51 (by decide) rfl ?_
    refine r_aload_n C dX12_law_53 rfl 2 rfl ?_
    refine r_iload C dX12_law_54 1 rfl ?_
    refine r_csI (rm' := rmX12_does) C mX12_does vX12_does k664 [aP l1, aI v1] [] rfl rfl (Nat.le_of_ble_eq_true rfl) (by decide) w.1 (k + 4) (n + 50) rfl rfl dX12_law_56 w.2 (fun x6 h7 w => ?_)
    refine r_istore C dX12_law_59 (by decide) rfl ?_
    refine r_iload C dX12_law_61 0 rfl ?_
    refine r_if_lt C dX12_law_63 (tgt := 70) rfl (fun hc => ?_) (fun hc => ?_)
    · have w := w.1 hc
      refine r_iconst (v := 0) C dX12_law_70 rfl ?_
      exact r_sub [3, 4, 5, 2, 1] rfl (bX12_law_71 C D g120 w)
    · have w := w.2 hc
      refine r_iconst (v := 1) C dX12_law_66 rfl ?_
      refine r_goto C dX12_law_67 (tgt := 71) rfl ?_
      exact r_sub [3, 4, 5, 2, 1] rfl (bX12_law_71 C D g120 w)
def PX12_law_0 (E : EV) (post : Option AV → AH → Prop) (J34 : Nat → Nat → AH → Option Nat → Int32 → Int32 → Prop) (k : Nat) (n : Nat) (h : AH) : Prop :=
  (k + 1 ≤ 600000 ∧ n + 12 ≤ 7302249) ∧ (∀ h1, h1 = h ++ [.inr (10, [aP none, aP none, aP none, aP none, aP none, aP none, aP none, aP none, aP none, aP none, aP none, aP none])] → ((k + 1) + 350 ≤ 600000 ∧ (n + 12) + 6000 ≤ 7302249) ∧ CS (sX10_init E) [aP (some h.length)] h1 (kV fun h3 => (((k + 1) + 350) ≤ 600000 ∧ ((n + 12) + 6000) ≤ 7302249) ∧ CV (sX10_undo E) (some h.length) 10 [] h3 (kI fun x5 h6 => (¬ x5 = (-1000002 : Int32) → False) ∧ (x5 = (-1000002 : Int32) → (((k + 1) + 350) ≤ 600000 ∧ ((n + 12) + 6000) ≤ 7302249) ∧ CV (sX10_setContainer E) (some h.length) 10 [aI (15 : Int32), aI (15 : Int32)] h6 (kI fun x7 h8 => (x7 = 0 → J34 ((k + 1) + 350) ((n + 12) + 6000) h8 (some h.length) (1 : Int32) (0 : Int32)) ∧ (¬ x7 = 0 → False))))))
theorem bX12_law_0 {E : EV} {X : AX} {post : Option AV → AH → Prop} (C : Cb E X cX12_law RX12 12 rmX12_law) (D : Lw E X) {J34 : Nat → Nat → AH → Option Nat → Int32 → Int32 → Prop} (g34 : ∀ (k n : Nat) (h : AH) (l1 : Option Nat) (l2 : Int32) (l3 : Int32), J34 k n h l1 l2 l3 → Go E X 12 k n 34 [(1, aP l1), (2, aI l2), (3, aI l3)] [] h) {k n : Nat} {h : AH} (w : PX12_law_0 E post J34 k n h) : Go E X 12 k n 0 [] [] h := by
  unfold PX12_law_0 at w
  refine r_new (fs := [aP none, aP none, aP none, aP none, aP none, aP none, aP none, aP none, aP none, aP none, aP none, aP none]) C fcX10 rfl df_X10 k13 k14 k1 w.1.1 w.1.2 dX12_law_0 ?_
  have w := w.2 _ rfl
  generalize h ++ [.inr (10, [aP none, aP none, aP none, aP none, aP none, aP none, aP none, aP none, aP none, aP none, aP none, aP none])] = h1 at w ⊢
  refine r_dup C dX12_law_3 rfl ?_
  refine r_ciV (rm' := rmX10_init) C mX10_init vX10_init (host := "") (Or.inl k15) [] [aP (some h.length)] rfl rfl (Nat.le_of_ble_eq_true rfl) (by decide) w.1 ((k + 1) + 350) ((n + 12) + 6000) rfl rfl dX12_law_4 rfl w.2 (fun h3 w => ?_)
  refine r_astore_n C dX12_law_7 rfl (by decide) rfl ?_
  refine r_aload_n C dX12_law_8 rfl 0 rfl ?_
  refine r_cvI (rm' := rmX10_undo) C mX10_undo vX10_undo k558 [] [] rfl rfl (Nat.le_of_ble_eq_true rfl) (by decide) w.1 ((k + 1) + 350) ((n + 12) + 6000) rfl rfl dX12_law_9 w.2 (fun x5 h6 w => ?_)
  refine r_ldc (v := -1000002) C dX12_law_12 k889 ?_
  refine r_icmp_ne C dX12_law_14 (tgt := 28) rfl (fun hc => ?_) (fun hc => ?_)
  · have w := w.1 hc
    refine r_iconst (v := 0) C dX12_law_28 rfl ?_
    exact w.elim
  · have w := w.2 hc
    refine r_aload_n C dX12_law_17 rfl 0 rfl ?_
    refine r_bipush (v := 15) C dX12_law_18 rfl ?_
    refine r_bipush (v := 15) C dX12_law_20 rfl ?_
    refine r_cvI (rm' := rmX10_setContainer) C mX10_setContainer vX10_setContainer k345 [aI (15 : Int32), aI (15 : Int32)] [] rfl rfl (Nat.le_of_ble_eq_true rfl) (by decide) w.1 ((k + 1) + 350) ((n + 12) + 6000) rfl rfl dX12_law_22 w.2 (fun x7 h8 w => ?_)
    refine r_if_eq C dX12_law_25 (tgt := 30) rfl (fun hc => ?_) (fun hc => ?_)
    · have w := w.1 hc
      refine r_iconst (v := 1) C dX12_law_30 rfl ?_
      refine r_istore_n C dX12_law_31 rfl (by decide) rfl ?_
      refine r_iconst (v := 0) C dX12_law_32 rfl ?_
      refine r_istore_n C dX12_law_33 rfl (by decide) rfl ?_
      exact r_sub [2, 1, 0] rfl (g34 ((k + 1) + 350) ((n + 12) + 6000) h8 (some h.length) (1 : Int32) (0 : Int32) w)
    · have w := w.2 hc
      refine r_iconst (v := 0) C dX12_law_28 rfl ?_
      exact w.elim
