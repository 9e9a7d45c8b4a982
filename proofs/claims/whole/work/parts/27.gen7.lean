theorem dX11_sumSize_0 : decode cX11_sumSize 0 = .ok (.iload_n 1, 1) := by decide +kernel
theorem dX11_sumSize_1 : decode cX11_sumSize 1 = .ok (.iconst 0, 1) := by decide +kernel
theorem dX11_sumSize_2 : decode cX11_sumSize 2 = .ok (.iconst 1, 1) := by decide +kernel
theorem dX11_sumSize_3 : decode cX11_sumSize 3 = .ok (.invokestatic 46, 3) := by decide +kernel
theorem dX11_sumSize_6 : decode cX11_sumSize 6 = .ok (.ifCond .eq 23, 3) := by decide +kernel
theorem dX11_sumSize_9 : decode cX11_sumSize 9 = .ok (.aload_n 0, 1) := by decide +kernel
theorem dX11_sumSize_10 : decode cX11_sumSize 10 = .ok (.iload_n 2, 1) := by decide +kernel
theorem dX11_sumSize_11 : decode cX11_sumSize 11 = .ok (.iload_n 3, 1) := by decide +kernel
theorem dX11_sumSize_12 : decode cX11_sumSize 12 = .ok (.invokevirtual 201, 3) := by decide +kernel
theorem dX11_sumSize_15 : decode cX11_sumSize 15 = .ok (.ifCond .eq 14, 3) := by decide +kernel
theorem dX11_sumSize_18 : decode cX11_sumSize 18 = .ok (.aload_n 0, 1) := by decide +kernel
theorem dX11_sumSize_19 : decode cX11_sumSize 19 = .ok (.iload 4, 2) := by decide +kernel
theorem dX11_sumSize_21 : decode cX11_sumSize 21 = .ok (.iload 5, 2) := by decide +kernel
theorem dX11_sumSize_23 : decode cX11_sumSize 23 = .ok (.invokevirtual 201, 3) := by decide +kernel
theorem dX11_sumSize_26 : decode cX11_sumSize 26 = .ok (.ifCond .ne 6, 3) := by decide +kernel
theorem dX11_sumSize_29 : decode cX11_sumSize 29 = .ok (.ldc 145, 2) := by decide +kernel
theorem dX11_sumSize_31 : decode cX11_sumSize 31 = .ok (.ireturn, 1) := by decide +kernel
theorem dX11_sumSize_32 : decode cX11_sumSize 32 = .ok (.aload_n 0, 1) := by decide +kernel
theorem dX11_sumSize_33 : decode cX11_sumSize 33 = .ok (.iconst 1, 1) := by decide +kernel
theorem dX11_sumSize_34 : decode cX11_sumSize 34 = .ok (.iconst 2, 1) := by decide +kernel
theorem dX11_sumSize_35 : decode cX11_sumSize 35 = .ok (.iload_n 1, 1) := by decide +kernel
theorem dX11_sumSize_36 : decode cX11_sumSize 36 = .ok (.imul, 1) := by decide +kernel
theorem dX11_sumSize_37 : decode cX11_sumSize 37 = .ok (.isub, 1) := by decide +kernel
theorem dX11_sumSize_38 : decode cX11_sumSize 38 = .ok (.iload_n 2, 1) := by decide +kernel
theorem dX11_sumSize_39 : decode cX11_sumSize 39 = .ok (.invokestatic 50, 3) := by decide +kernel
theorem dX11_sumSize_42 : decode cX11_sumSize 42 = .ok (.iload_n 3, 1) := by decide +kernel
theorem dX11_sumSize_43 : decode cX11_sumSize 43 = .ok (.iload 4, 2) := by decide +kernel
theorem dX11_sumSize_45 : decode cX11_sumSize 45 = .ok (.invokestatic 50, 3) := by decide +kernel
theorem dX11_sumSize_48 : decode cX11_sumSize 48 = .ok (.iload 5, 2) := by decide +kernel
theorem dX11_sumSize_50 : decode cX11_sumSize 50 = .ok (.invokevirtual 230, 3) := by decide +kernel
theorem dX11_sumSize_53 : decode cX11_sumSize 53 = .ok (.aload_n 0, 1) := by decide +kernel
theorem dX11_sumSize_54 : decode cX11_sumSize 54 = .ok (.getfield 211, 3) := by decide +kernel
theorem dX11_sumSize_57 : decode cX11_sumSize 57 = .ok (.ireturn, 1) := by decide +kernel
abbrev rmX11_sumSize : Room := { frames := 4, cells := 0, slots := 0, locals := 160 }
abbrev sX11_sumSize (E : EV) : List AV → AH → (Option AV → AH → Prop) → Prop := Spec E yX11_sumSize cX11_sumSize 6 (some .int) rmX11_sumSize
theorem mX11_sumSize : Mt yX11_sumSize cX11_sumSize 6 (some .int) 5 := ⟨k1193, k12, by decide +kernel⟩
theorem vX11_sumSize : MtV yX11_sumSize 11 := ⟨k1191, k1192, by decide, (RX11, TX11, 26), rfl, rfl⟩
def PX11_sumSize_0 (E : EV) (post : Option AV → AH → Prop) (h : AH) (l0 : Option Nat) (l1 : Int32) (l2 : Int32) (l3 : Int32) (l4 : Int32) (l5 : Int32) : Prop :=
  CS (sX11_in E) [aI l1, aI (0 : Int32), aI (1 : Int32)] h (kI fun x1 h2 => (x1 = 0 → post (some (aI (-1000001 : Int32))) h2) ∧ (¬ x1 = 0 → CV (sX11_hasPiece E) l0 11 [aI l2, aI l3] h2 (kI fun x3 h4 => (x3 = 0 → post (some (aI (-1000001 : Int32))) h4) ∧ (¬ x3 = 0 → CV (sX11_hasPiece E) l0 11 [aI l4, aI l5] h4 (kI fun x5 h6 => (¬ x5 = 0 → CS (sX11_slotAt E) [aI l2] h6 (kI fun x7 h8 => CS (sX11_slotAt E) [aI l4] h8 (kI fun x9 h10 => CV (sX11_laysSum E) l0 11 [aI ((1 : Int32) - ((2 : Int32) * l1)), aI x7, aI l3, aI x9, aI l5] h10 (kV fun h12 => rdI h12 l0 11 18 fun x13 => post (some (aI x13)) h12)))) ∧ (x5 = 0 → post (some (aI (-1000001 : Int32))) h6))))))
theorem bX11_sumSize_0 {E : EV} {X : AX} {post : Option AV → AH → Prop} (C : Cb E X cX11_sumSize RX11 6 rmX11_sumSize) (D : Cr E X (some .int) rmX11_sumSize "sumSize" post) {h : AH} {l0 : Option Nat} {l1 : Int32} {l2 : Int32} {l3 : Int32} {l4 : Int32} {l5 : Int32} (w : PX11_sumSize_0 E post h l0 l1 l2 l3 l4 l5) : Go E X 6 0 0 0 [(0, aP l0), (1, aI l1), (2, aI l2), (3, aI l3), (4, aI l4), (5, aI l5)] [] h := by
  unfold PX11_sumSize_0 at w
  refine r_iload_n C dX11_sumSize_0 rfl 1 rfl ?_
  refine r_iconst (v := 0) C dX11_sumSize_1 rfl ?_
  refine r_iconst (v := 1) C dX11_sumSize_2 rfl ?_
  refine r_csI (rm' := rmX11_in) C mX11_in vX11_in k1036 [aI l1, aI (0 : Int32), aI (1 : Int32)] [] rfl rfl (Nat.le_of_ble_eq_true rfl) (by decide) ⟨Nat.zero_le _, Nat.zero_le _⟩ 0 0 rfl rfl dX11_sumSize_3 w (fun x1 h2 w => ?_)
  refine r_if_eq C dX11_sumSize_6 (tgt := 29) rfl (fun hc => ?_) (fun hc => ?_)
  · have w := w.1 hc
    refine r_ldc (v := -1000001) C dX11_sumSize_29 k1039 ?_
    exact r_iret C D rfl (Nat.zero_le _) (Nat.zero_le _) dX11_sumSize_31 w
  · have w := w.2 hc
    refine r_aload_n C dX11_sumSize_9 rfl 0 rfl ?_
    refine r_iload_n C dX11_sumSize_10 rfl 2 rfl ?_
    refine r_iload_n C dX11_sumSize_11 rfl 3 rfl ?_
    refine r_cvI (rm' := rmX11_hasPiece) C mX11_hasPiece vX11_hasPiece k1135 [aI l2, aI l3] [] rfl rfl (Nat.le_of_ble_eq_true rfl) (by decide) ⟨Nat.zero_le _, Nat.zero_le _⟩ 0 0 rfl rfl dX11_sumSize_12 w (fun x3 h4 w => ?_)
    refine r_if_eq C dX11_sumSize_15 (tgt := 29) rfl (fun hc => ?_) (fun hc => ?_)
    · have w := w.1 hc
      refine r_ldc (v := -1000001) C dX11_sumSize_29 k1039 ?_
      exact r_iret C D rfl (Nat.zero_le _) (Nat.zero_le _) dX11_sumSize_31 w
    · have w := w.2 hc
      refine r_aload_n C dX11_sumSize_18 rfl 0 rfl ?_
      refine r_iload C dX11_sumSize_19 4 rfl ?_
      refine r_iload C dX11_sumSize_21 5 rfl ?_
      refine r_cvI (rm' := rmX11_hasPiece) C mX11_hasPiece vX11_hasPiece k1135 [aI l4, aI l5] [] rfl rfl (Nat.le_of_ble_eq_true rfl) (by decide) ⟨Nat.zero_le _, Nat.zero_le _⟩ 0 0 rfl rfl dX11_sumSize_23 w (fun x5 h6 w => ?_)
      refine r_if_ne C dX11_sumSize_26 (tgt := 32) rfl (fun hc => ?_) (fun hc => ?_)
      · have w := w.1 hc
        refine r_aload_n C dX11_sumSize_32 rfl 0 rfl ?_
        refine r_iconst (v := 1) C dX11_sumSize_33 rfl ?_
        refine r_iconst (v := 2) C dX11_sumSize_34 rfl ?_
        refine r_iload_n C dX11_sumSize_35 rfl 1 rfl ?_
        refine r_imul C dX11_sumSize_36 ?_
        refine r_isub C dX11_sumSize_37 ?_
        refine r_iload_n C dX11_sumSize_38 rfl 2 rfl ?_
        refine r_csI (rm' := rmX11_slotAt) C mX11_slotAt vX11_slotAt k1100 [aI l2] [aI ((1 : Int32) - ((2 : Int32) * l1)), aP l0] rfl rfl (Nat.le_of_ble_eq_true rfl) (by decide) ⟨Nat.zero_le _, Nat.zero_le _⟩ 0 0 rfl rfl dX11_sumSize_39 w (fun x7 h8 w => ?_)
        refine r_iload_n C dX11_sumSize_42 rfl 3 rfl ?_
        refine r_iload C dX11_sumSize_43 4 rfl ?_
        refine r_csI (rm' := rmX11_slotAt) C mX11_slotAt vX11_slotAt k1100 [aI l4] [aI l3, aI x7, aI ((1 : Int32) - ((2 : Int32) * l1)), aP l0] rfl rfl (Nat.le_of_ble_eq_true rfl) (by decide) ⟨Nat.zero_le _, Nat.zero_le _⟩ 0 0 rfl rfl dX11_sumSize_45 w (fun x9 h10 w => ?_)
        refine r_iload C dX11_sumSize_48 5 rfl ?_
        refine r_cvV (rm' := rmX11_laysSum) C mX11_laysSum vX11_laysSum k1194 [aI ((1 : Int32) - ((2 : Int32) * l1)), aI x7, aI l3, aI x9, aI l5] [] rfl rfl (Nat.le_of_ble_eq_true rfl) (by decide) ⟨Nat.zero_le _, Nat.zero_le _⟩ 0 0 rfl rfl dX11_sumSize_50 w (fun h12 w => ?_)
        refine r_aload_n C dX11_sumSize_53 rfl 0 rfl ?_
        refine r_getI C fcX11 (f := 18) (by decide) rfl k961 dX11_sumSize_54 (w.mono fun x13 w => ?_)
        exact r_iret C D rfl (Nat.zero_le _) (Nat.zero_le _) dX11_sumSize_57 w
      · have w := w.2 hc
        refine r_ldc (v := -1000001) C dX11_sumSize_29 k1039 ?_
        exact r_iret C D rfl (Nat.zero_le _) (Nat.zero_le _) dX11_sumSize_31 w
theorem eX11_sumSize {E : EV} {post : Option AV → AH → Prop} {h : AH} {l0 : Option Nat} {l1 : Int32} {l2 : Int32} {l3 : Int32} {l4 : Int32} {l5 : Int32} (w : PX11_sumSize_0 E post h l0 l1 l2 l3 l4 l5) : sX11_sumSize E [aP l0, aI l1, aI l2, aI l3, aI l4, aI l5] h post := Spec.of RX11 rfl rfl (Nat.le_of_ble_eq_true rfl) fun X C D => bX11_sumSize_0 C D w
theorem dX11_sumVertex_0 : decode cX11_sumVertex 0 = .ok (.iload_n 1, 1) := by decide +kernel
theorem dX11_sumVertex_1 : decode cX11_sumVertex 1 = .ok (.iconst 0, 1) := by decide +kernel
theorem dX11_sumVertex_2 : decode cX11_sumVertex 2 = .ok (.iconst 1, 1) := by decide +kernel
theorem dX11_sumVertex_3 : decode cX11_sumVertex 3 = .ok (.invokestatic 46, 3) := by decide +kernel
theorem dX11_sumVertex_6 : decode cX11_sumVertex 6 = .ok (.ifCond .eq 28, 3) := by decide +kernel
theorem dX11_sumVertex_9 : decode cX11_sumVertex 9 = .ok (.aload_n 0, 1) := by decide +kernel
theorem dX11_sumVertex_10 : decode cX11_sumVertex 10 = .ok (.iload_n 2, 1) := by decide +kernel
theorem dX11_sumVertex_11 : decode cX11_sumVertex 11 = .ok (.iload_n 3, 1) := by decide +kernel
theorem dX11_sumVertex_12 : decode cX11_sumVertex 12 = .ok (.invokevirtual 201, 3) := by decide +kernel
theorem dX11_sumVertex_15 : decode cX11_sumVertex 15 = .ok (.ifCond .eq 19, 3) := by decide +kernel
theorem dX11_sumVertex_18 : decode cX11_sumVertex 18 = .ok (.aload_n 0, 1) := by decide +kernel
theorem dX11_sumVertex_19 : decode cX11_sumVertex 19 = .ok (.iload 4, 2) := by decide +kernel
theorem dX11_sumVertex_21 : decode cX11_sumVertex 21 = .ok (.iload 5, 2) := by decide +kernel
theorem dX11_sumVertex_23 : decode cX11_sumVertex 23 = .ok (.invokevirtual 201, 3) := by decide +kernel
theorem dX11_sumVertex_26 : decode cX11_sumVertex 26 = .ok (.ifCond .eq 8, 3) := by decide +kernel
theorem dX11_sumVertex_29 : decode cX11_sumVertex 29 = .ok (.iload 6, 2) := by decide +kernel
theorem dX11_sumVertex_31 : decode cX11_sumVertex 31 = .ok (.ifCond .ge 6, 3) := by decide +kernel
theorem dX11_sumVertex_34 : decode cX11_sumVertex 34 = .ok (.ldc 145, 2) := by decide +kernel
theorem dX11_sumVertex_36 : decode cX11_sumVertex 36 = .ok (.ireturn, 1) := by decide +kernel
theorem dX11_sumVertex_37 : decode cX11_sumVertex 37 = .ok (.aload_n 0, 1) := by decide +kernel
theorem dX11_sumVertex_38 : decode cX11_sumVertex 38 = .ok (.iconst 1, 1) := by decide +kernel
theorem dX11_sumVertex_39 : decode cX11_sumVertex 39 = .ok (.iconst 2, 1) := by decide +kernel
theorem dX11_sumVertex_40 : decode cX11_sumVertex 40 = .ok (.iload_n 1, 1) := by decide +kernel
theorem dX11_sumVertex_41 : decode cX11_sumVertex 41 = .ok (.imul, 1) := by decide +kernel
theorem dX11_sumVertex_42 : decode cX11_sumVertex 42 = .ok (.isub, 1) := by decide +kernel
theorem dX11_sumVertex_43 : decode cX11_sumVertex 43 = .ok (.iload_n 2, 1) := by decide +kernel
theorem dX11_sumVertex_44 : decode cX11_sumVertex 44 = .ok (.invokestatic 50, 3) := by decide +kernel
theorem dX11_sumVertex_47 : decode cX11_sumVertex 47 = .ok (.iload_n 3, 1) := by decide +kernel
theorem dX11_sumVertex_48 : decode cX11_sumVertex 48 = .ok (.iload 4, 2) := by decide +kernel
theorem dX11_sumVertex_50 : decode cX11_sumVertex 50 = .ok (.invokestatic 50, 3) := by decide +kernel
theorem dX11_sumVertex_53 : decode cX11_sumVertex 53 = .ok (.iload 5, 2) := by decide +kernel
theorem dX11_sumVertex_55 : decode cX11_sumVertex 55 = .ok (.invokevirtual 230, 3) := by decide +kernel
theorem dX11_sumVertex_58 : decode cX11_sumVertex 58 = .ok (.iload 6, 2) := by decide +kernel
theorem dX11_sumVertex_60 : decode cX11_sumVertex 60 = .ok (.aload_n 0, 1) := by decide +kernel
theorem dX11_sumVertex_61 : decode cX11_sumVertex 61 = .ok (.getfield 211, 3) := by decide +kernel
theorem dX11_sumVertex_64 : decode cX11_sumVertex 64 = .ok (.if_icmp .ge 25, 3) := by decide +kernel
theorem dX11_sumVertex_67 : decode cX11_sumVertex 67 = .ok (.sipush 1000, 3) := by decide +kernel
theorem dX11_sumVertex_70 : decode cX11_sumVertex 70 = .ok (.aload_n 0, 1) := by decide +kernel
theorem dX11_sumVertex_71 : decode cX11_sumVertex 71 = .ok (.getfield 26, 3) := by decide +kernel
theorem dX11_sumVertex_74 : decode cX11_sumVertex 74 = .ok (.iload 6, 2) := by decide +kernel
theorem dX11_sumVertex_76 : decode cX11_sumVertex 76 = .ok (.iaload, 1) := by decide +kernel
theorem dX11_sumVertex_77 : decode cX11_sumVertex 77 = .ok (.imul, 1) := by decide +kernel
theorem dX11_sumVertex_78 : decode cX11_sumVertex 78 = .ok (.aload_n 0, 1) := by decide +kernel
theorem dX11_sumVertex_79 : decode cX11_sumVertex 79 = .ok (.getfield 29, 3) := by decide +kernel
theorem dX11_sumVertex_82 : decode cX11_sumVertex 82 = .ok (.iload 6, 2) := by decide +kernel
theorem dX11_sumVertex_84 : decode cX11_sumVertex 84 = .ok (.iaload, 1) := by decide +kernel
theorem dX11_sumVertex_85 : decode cX11_sumVertex 85 = .ok (.iadd, 1) := by decide +kernel
theorem dX11_sumVertex_86 : decode cX11_sumVertex 86 = .ok (.goto 5, 3) := by decide +kernel
theorem dX11_sumVertex_89 : decode cX11_sumVertex 89 = .ok (.ldc 226, 2) := by decide +kernel
theorem dX11_sumVertex_91 : decode cX11_sumVertex 91 = .ok (.ireturn, 1) := by decide +kernel
abbrev rmX11_sumVertex : Room := { frames := 4, cells := 0, slots := 0, locals := 160 }
abbrev sX11_sumVertex (E : EV) : List AV → AH → (Option AV → AH → Prop) → Prop := Spec E yX11_sumVertex cX11_sumVertex 7 (some .int) rmX11_sumVertex
theorem mX11_sumVertex : Mt yX11_sumVertex cX11_sumVertex 7 (some .int) 6 := ⟨k1201, k12, by decide +kernel⟩
theorem vX11_sumVertex : MtV yX11_sumVertex 11 := ⟨k1199, k1200, by decide, (RX11, TX11, 26), rfl, rfl⟩
def PX11_sumVertex_0 (E : EV) (post : Option AV → AH → Prop) (h : AH) (l0 : Option Nat) (l1 : Int32) (l2 : Int32) (l3 : Int32) (l4 : Int32) (l5 : Int32) (l6 : Int32) : Prop :=
  CS (sX11_in E) [aI l1, aI (0 : Int32), aI (1 : Int32)] h (kI fun x1 h2 => (x1 = 0 → post (some (aI (-1000001 : Int32))) h2) ∧ (¬ x1 = 0 → CV (sX11_hasPiece E) l0 11 [aI l2, aI l3] h2 (kI fun x3 h4 => (x3 = 0 → post (some (aI (-1000001 : Int32))) h4) ∧ (¬ x3 = 0 → CV (sX11_hasPiece E) l0 11 [aI l4, aI l5] h4 (kI fun x5 h6 => (x5 = 0 → post (some (aI (-1000001 : Int32))) h6) ∧ (¬ x5 = 0 → (0 ≤ l6 → CS (sX11_slotAt E) [aI l2] h6 (kI fun x7 h8 => CS (sX11_slotAt E) [aI l4] h8 (kI fun x9 h10 => CV (sX11_laysSum E) l0 11 [aI ((1 : Int32) - ((2 : Int32) * l1)), aI x7, aI l3, aI x9, aI l5] h10 (kV fun h12 => rdI h12 l0 11 18 fun x13 => (x13 ≤ l6 → post (some (aI (-1000009 : Int32))) h12) ∧ (¬ x13 ≤ l6 → rdP h12 l0 11 19 fun x14 => aldI h12 x14 0 l6 fun x15 => rdP h12 l0 11 20 fun x16 => aldI h12 x16 0 l6 fun x17 => post (some (aI (((1000 : Int32) * x15) + x17))) h12))))) ∧ (¬ 0 ≤ l6 → post (some (aI (-1000001 : Int32))) h6)))))))
theorem bX11_sumVertex_0 {E : EV} {X : AX} {post : Option AV → AH → Prop} (C : Cb E X cX11_sumVertex RX11 7 rmX11_sumVertex) (D : Cr E X (some .int) rmX11_sumVertex "sumVertex" post) {h : AH} {l0 : Option Nat} {l1 : Int32} {l2 : Int32} {l3 : Int32} {l4 : Int32} {l5 : Int32} {l6 : Int32} (w : PX11_sumVertex_0 E post h l0 l1 l2 l3 l4 l5 l6) : Go E X 7 0 0 0 [(0, aP l0), (1, aI l1), (2, aI l2), (3, aI l3), (4, aI l4), (5, aI l5), (6, aI l6)] [] h := by
  unfold PX11_sumVertex_0 at w
  refine r_iload_n C dX11_sumVertex_0 rfl 1 rfl ?_
  refine r_iconst (v := 0) C dX11_sumVertex_1 rfl ?_
  refine r_iconst (v := 1) C dX11_sumVertex_2 rfl ?_
  refine r_csI (rm' := rmX11_in) C mX11_in vX11_in k1036 [aI l1, aI (0 : Int32), aI (1 : Int32)] [] rfl rfl (Nat.le_of_ble_eq_true rfl) (by decide) ⟨Nat.zero_le _, Nat.zero_le _⟩ 0 0 rfl rfl dX11_sumVertex_3 w (fun x1 h2 w => ?_)
  refine r_if_eq C dX11_sumVertex_6 (tgt := 34) rfl (fun hc => ?_) (fun hc => ?_)
  · have w := w.1 hc
    refine r_ldc (v := -1000001) C dX11_sumVertex_34 k1039 ?_
    exact r_iret C D rfl (Nat.zero_le _) (Nat.zero_le _) dX11_sumVertex_36 w
  · have w := w.2 hc
    refine r_aload_n C dX11_sumVertex_9 rfl 0 rfl ?_
    refine r_iload_n C dX11_sumVertex_10 rfl 2 rfl ?_
    refine r_iload_n C dX11_sumVertex_11 rfl 3 rfl ?_
    refine r_cvI (rm' := rmX11_hasPiece) C mX11_hasPiece vX11_hasPiece k1135 [aI l2, aI l3] [] rfl rfl (Nat.le_of_ble_eq_true rfl) (by decide) ⟨Nat.zero_le _, Nat.zero_le _⟩ 0 0 rfl rfl dX11_sumVertex_12 w (fun x3 h4 w => ?_)
    refine r_if_eq C dX11_sumVertex_15 (tgt := 34) rfl (fun hc => ?_) (fun hc => ?_)
    · have w := w.1 hc
      refine r_ldc (v := -1000001) C dX11_sumVertex_34 k1039 ?_
      exact r_iret C D rfl (Nat.zero_le _) (Nat.zero_le _) dX11_sumVertex_36 w
    · have w := w.2 hc
      refine r_aload_n C dX11_sumVertex_18 rfl 0 rfl ?_
      refine r_iload C dX11_sumVertex_19 4 rfl ?_
      refine r_iload C dX11_sumVertex_21 5 rfl ?_
      refine r_cvI (rm' := rmX11_hasPiece) C mX11_hasPiece vX11_hasPiece k1135 [aI l4, aI l5] [] rfl rfl (Nat.le_of_ble_eq_true rfl) (by decide) ⟨Nat.zero_le _, Nat.zero_le _⟩ 0 0 rfl rfl dX11_sumVertex_23 w (fun x5 h6 w => ?_)
      refine r_if_eq C dX11_sumVertex_26 (tgt := 34) rfl (fun hc => ?_) (fun hc => ?_)
      · have w := w.1 hc
        refine r_ldc (v := -1000001) C dX11_sumVertex_34 k1039 ?_
        exact r_iret C D rfl (Nat.zero_le _) (Nat.zero_le _) dX11_sumVertex_36 w
      · have w := w.2 hc
        refine r_iload C dX11_sumVertex_29 6 rfl ?_
        refine r_if_ge C dX11_sumVertex_31 (tgt := 37) rfl (fun hc => ?_) (fun hc => ?_)
        · have w := w.1 hc
          refine r_aload_n C dX11_sumVertex_37 rfl 0 rfl ?_
          refine r_iconst (v := 1) C dX11_sumVertex_38 rfl ?_
          refine r_iconst (v := 2) C dX11_sumVertex_39 rfl ?_
          refine r_iload_n C dX11_sumVertex_40 rfl 1 rfl ?_
          refine r_imul C dX11_sumVertex_41 ?_
          refine r_isub C dX11_sumVertex_42 ?_
          refine r_iload_n C dX11_sumVertex_43 rfl 2 rfl ?_
          refine r_csI (rm' := rmX11_slotAt) C mX11_slotAt vX11_slotAt k1100 [aI l2] [aI ((1 : Int32) - ((2 : Int32) * l1)), aP l0] rfl rfl (Nat.le_of_ble_eq_true rfl) (by decide) ⟨Nat.zero_le _, Nat.zero_le _⟩ 0 0 rfl rfl dX11_sumVertex_44 w (fun x7 h8 w => ?_)
          refine r_iload_n C dX11_sumVertex_47 rfl 3 rfl ?_
          refine r_iload C dX11_sumVertex_48 4 rfl ?_
          refine r_csI (rm' := rmX11_slotAt) C mX11_slotAt vX11_slotAt k1100 [aI l4] [aI l3, aI x7, aI ((1 : Int32) - ((2 : Int32) * l1)), aP l0] rfl rfl (Nat.le_of_ble_eq_true rfl) (by decide) ⟨Nat.zero_le _, Nat.zero_le _⟩ 0 0 rfl rfl dX11_sumVertex_50 w (fun x9 h10 w => ?_)
          refine r_iload C dX11_sumVertex_53 5 rfl ?_
          refine r_cvV (rm' := rmX11_laysSum) C mX11_laysSum vX11_laysSum k1194 [aI ((1 : Int32) - ((2 : Int32) * l1)), aI x7, aI l3, aI x9, aI l5] [] rfl rfl (Nat.le_of_ble_eq_true rfl) (by decide) ⟨Nat.zero_le _, Nat.zero_le _⟩ 0 0 rfl rfl dX11_sumVertex_55 w (fun h12 w => ?_)
          refine r_iload C dX11_sumVertex_58 6 rfl ?_
          refine r_aload_n C dX11_sumVertex_60 rfl 0 rfl ?_
          refine r_getI C fcX11 (f := 18) (by decide) rfl k961 dX11_sumVertex_61 (w.mono fun x13 w => ?_)
          refine r_icmp_ge C dX11_sumVertex_64 (tgt := 89) rfl (fun hc => ?_) (fun hc => ?_)
          · have w := w.1 hc
            refine r_ldc (v := -1000009) C dX11_sumVertex_89 k1170 ?_
            exact r_iret C D rfl (Nat.zero_le _) (Nat.zero_le _) dX11_sumVertex_91 w
          · have w := w.2 hc
            refine r_sipush (v := 1000) C dX11_sumVertex_67 rfl ?_
            refine r_aload_n C dX11_sumVertex_70 rfl 0 rfl ?_
            refine r_getP C fcX11 (f := 19) (by decide) rfl k962 dX11_sumVertex_71 (w.mono fun x14 w => ?_)
            refine r_iload C dX11_sumVertex_74 6 rfl ?_
            refine r_iald C dX11_sumVertex_76 (w.mono fun x15 w => ?_)
            refine r_imul C dX11_sumVertex_77 ?_
            refine r_aload_n C dX11_sumVertex_78 rfl 0 rfl ?_
            refine r_getP C fcX11 (f := 20) (by decide) rfl k963 dX11_sumVertex_79 (w.mono fun x16 w => ?_)
            refine r_iload C dX11_sumVertex_82 6 rfl ?_
            refine r_iald C dX11_sumVertex_84 (w.mono fun x17 w => ?_)
            refine r_iadd C dX11_sumVertex_85 ?_
            refine r_goto C dX11_sumVertex_86 (tgt := 91) rfl ?_
            exact r_iret C D rfl (Nat.zero_le _) (Nat.zero_le _) dX11_sumVertex_91 w
        · have w := w.2 hc
          refine r_ldc (v := -1000001) C dX11_sumVertex_34 k1039 ?_
          exact r_iret C D rfl (Nat.zero_le _) (Nat.zero_le _) dX11_sumVertex_36 w
theorem eX11_sumVertex {E : EV} {post : Option AV → AH → Prop} {h : AH} {l0 : Option Nat} {l1 : Int32} {l2 : Int32} {l3 : Int32} {l4 : Int32} {l5 : Int32} {l6 : Int32} (w : PX11_sumVertex_0 E post h l0 l1 l2 l3 l4 l5 l6) : sX11_sumVertex E [aP l0, aI l1, aI l2, aI l3, aI l4, aI l5, aI l6] h post := Spec.of RX11 rfl rfl (Nat.le_of_ble_eq_true rfl) fun X C D => bX11_sumVertex_0 C D w
theorem dX11_touchingPairs_0 : decode cX11_touchingPairs 0 = .ok (.iconst 0, 1) := by decide +kernel
theorem dX11_touchingPairs_1 : decode cX11_touchingPairs 1 = .ok (.istore_n 1, 1) := by decide +kernel
theorem dX11_touchingPairs_2 : decode cX11_touchingPairs 2 = .ok (.iconst 0, 1) := by decide +kernel
theorem dX11_touchingPairs_3 : decode cX11_touchingPairs 3 = .ok (.istore_n 2, 1) := by decide +kernel
theorem dX11_touchingPairs_4 : decode cX11_touchingPairs 4 = .ok (.iload_n 2, 1) := by decide +kernel
theorem dX11_touchingPairs_5 : decode cX11_touchingPairs 5 = .ok (.aload_n 0, 1) := by decide +kernel
theorem dX11_touchingPairs_6 : decode cX11_touchingPairs 6 = .ok (.getfield 7, 3) := by decide +kernel
theorem dX11_touchingPairs_9 : decode cX11_touchingPairs 9 = .ok (.iconst 3, 1) := by decide +kernel
theorem dX11_touchingPairs_10 : decode cX11_touchingPairs 10 = .ok (.iaload, 1) := by decide +kernel
theorem dX11_touchingPairs_11 : decode cX11_touchingPairs 11 = .ok (.if_icmp .ge 68, 3) := by decide +kernel
theorem dX11_touchingPairs_14 : decode cX11_touchingPairs 14 = .ok (.iconst 0, 1) := by decide +kernel
theorem dX11_touchingPairs_15 : decode cX11_touchingPairs 15 = .ok (.istore_n 3, 1) := by decide +kernel
theorem dX11_touchingPairs_16 : decode cX11_touchingPairs 16 = .ok (.iload_n 3, 1) := by decide +kernel
theorem dX11_touchingPairs_17 : decode cX11_touchingPairs 17 = .ok (.iload_n 2, 1) := by decide +kernel
theorem dX11_touchingPairs_18 : decode cX11_touchingPairs 18 = .ok (.if_icmp .ge 55, 3) := by decide +kernel
theorem dX11_touchingPairs_21 : decode cX11_touchingPairs 21 = .ok (.iload_n 1, 1) := by decide +kernel
theorem dX11_touchingPairs_22 : decode cX11_touchingPairs 22 = .ok (.aload_n 0, 1) := by decide +kernel
theorem dX11_touchingPairs_23 : decode cX11_touchingPairs 23 = .ok (.iload_n 2, 1) := by decide +kernel
theorem dX11_touchingPairs_24 : decode cX11_touchingPairs 24 = .ok (.invokestatic 257, 3) := by decide +kernel
theorem dX11_touchingPairs_27 : decode cX11_touchingPairs 27 = .ok (.iload_n 3, 1) := by decide +kernel
theorem dX11_touchingPairs_28 : decode cX11_touchingPairs 28 = .ok (.invokestatic 257, 3) := by decide +kernel
theorem dX11_touchingPairs_31 : decode cX11_touchingPairs 31 = .ok (.aload_n 0, 1) := by decide +kernel
theorem dX11_touchingPairs_32 : decode cX11_touchingPairs 32 = .ok (.iload_n 3, 1) := by decide +kernel
theorem dX11_touchingPairs_33 : decode cX11_touchingPairs 33 = .ok (.invokevirtual 260, 3) := by decide +kernel
theorem dX11_touchingPairs_36 : decode cX11_touchingPairs 36 = .ok (.aload_n 0, 1) := by decide +kernel
theorem dX11_touchingPairs_37 : decode cX11_touchingPairs 37 = .ok (.iload_n 2, 1) := by decide +kernel
theorem dX11_touchingPairs_38 : decode cX11_touchingPairs 38 = .ok (.invokevirtual 260, 3) := by decide +kernel
theorem dX11_touchingPairs_41 : decode cX11_touchingPairs 41 = .ok (.isub, 1) := by decide +kernel
theorem dX11_touchingPairs_42 : decode cX11_touchingPairs 42 = .ok (.aload_n 0, 1) := by decide +kernel
theorem dX11_touchingPairs_43 : decode cX11_touchingPairs 43 = .ok (.iload_n 3, 1) := by decide +kernel
theorem dX11_touchingPairs_44 : decode cX11_touchingPairs 44 = .ok (.invokevirtual 263, 3) := by decide +kernel
theorem dX11_touchingPairs_47 : decode cX11_touchingPairs 47 = .ok (.aload_n 0, 1) := by decide +kernel
theorem dX11_touchingPairs_48 : decode cX11_touchingPairs 48 = .ok (.iload_n 2, 1) := by decide +kernel
theorem dX11_touchingPairs_49 : decode cX11_touchingPairs 49 = .ok (.invokevirtual 263, 3) := by decide +kernel
theorem dX11_touchingPairs_52 : decode cX11_touchingPairs 52 = .ok (.isub, 1) := by decide +kernel
theorem dX11_touchingPairs_53 : decode cX11_touchingPairs 53 = .ok (.invokevirtual 239, 3) := by decide +kernel
theorem dX11_touchingPairs_56 : decode cX11_touchingPairs 56 = .ok (.iconst 1, 1) := by decide +kernel
theorem dX11_touchingPairs_57 : decode cX11_touchingPairs 57 = .ok (.if_icmp .ne 7, 3) := by decide +kernel
theorem dX11_touchingPairs_60 : decode cX11_touchingPairs 60 = .ok (.iconst 1, 1) := by decide +kernel
theorem dX11_touchingPairs_61 : decode cX11_touchingPairs 61 = .ok (.goto 4, 3) := by decide +kernel
theorem dX11_touchingPairs_64 : decode cX11_touchingPairs 64 = .ok (.iconst 0, 1) := by decide +kernel
theorem dX11_touchingPairs_65 : decode cX11_touchingPairs 65 = .ok (.iadd, 1) := by decide +kernel
theorem dX11_touchingPairs_66 : decode cX11_touchingPairs 66 = .ok (.istore_n 1, 1) := by decide +kernel
theorem dX11_touchingPairs_67 : decode cX11_touchingPairs 67 = .ok (.iinc 3 1, 3) := by decide +kernel
theorem dX11_touchingPairs_70 : decode cX11_touchingPairs 70 = .ok (.goto (-54), 3) := by decide +kernel
theorem dX11_touchingPairs_73 : decode cX11_touchingPairs 73 = .ok (.iinc 2 1, 3) := by decide +kernel
theorem dX11_touchingPairs_76 : decode cX11_touchingPairs 76 = .ok (.goto (-72), 3) := by decide +kernel
theorem dX11_touchingPairs_79 : decode cX11_touchingPairs 79 = .ok (.iload_n 1, 1) := by decide +kernel
theorem dX11_touchingPairs_80 : decode cX11_touchingPairs 80 = .ok (.ireturn, 1) := by decide +kernel
abbrev rmX11_touchingPairs : Room := { frames := 6, cells := 0, slots := 0, locals := 240 }
abbrev sX11_touchingPairs (E : EV) : List AV → AH → (Option AV → AH → Prop) → Prop := Spec E yX11_touchingPairs cX11_touchingPairs 4 (some .int) rmX11_touchingPairs
theorem mX11_touchingPairs : Mt yX11_touchingPairs cX11_touchingPairs 4 (some .int) 0 := ⟨k1424, k12, by decide +kernel⟩
theorem vX11_touchingPairs : MtV yX11_touchingPairs 11 := ⟨k1422, k1423, by decide, (RX11, TX11, 26), rfl, rfl⟩
def PX11_touchingPairs_65 (E : EV) (post : Option AV → AH → Prop) (J16 : AH → Option Nat → Int32 → Int32 → Int32 → Prop) (h : AH) (l0 : Option Nat) (l2 : Int32) (l3 : Int32) (s0 : Int32) (s1 : Int32) : Prop :=
  ∀ v1, v1 = (s0 + s1) → J16 h l0 v1 l2 (l3 + (1 : Int32))
theorem bX11_touchingPairs_65 {E : EV} {X : AX} {post : Option AV → AH → Prop} (C : Cb E X cX11_touchingPairs RX11 4 rmX11_touchingPairs) (D : Cr E X (some .int) rmX11_touchingPairs "touchingPairs" post) {J16 : AH → Option Nat → Int32 → Int32 → Int32 → Prop} (g16 : ∀ (h : AH) (l0 : Option Nat) (l1 : Int32) (l2 : Int32) (l3 : Int32), J16 h l0 l1 l2 l3 → Go E X 4 0 0 16 [(0, aP l0), (1, aI l1), (2, aI l2), (3, aI l3)] [] h) {h : AH} {l0 : Option Nat} {l2 : Int32} {l3 : Int32} {s0 : Int32} {s1 : Int32} (w : PX11_touchingPairs_65 E post J16 h l0 l2 l3 s0 s1) : Go E X 4 0 0 65 [(0, aP l0), (2, aI l2), (3, aI l3)] [aI s1, aI s0] h := by
  unfold PX11_touchingPairs_65 at w
  refine r_iadd C dX11_touchingPairs_65 ?_
  refine r_istore_n C dX11_touchingPairs_66 rfl (by decide) rfl ?_
  have w := w _ rfl
  refine r_iinc C dX11_touchingPairs_67 3 rfl (v := 1) rfl (by decide) rfl ?_
  refine r_goto C dX11_touchingPairs_70 (tgt := 16) rfl ?_
  exact r_sub [2, 1, 3, 0] rfl (g16 h l0 (s0 + s1) l2 (l3 + (1 : Int32)) w)
def PX11_touchingPairs_16 (E : EV) (post : Option AV → AH → Prop) (J4 : AH → Option Nat → Int32 → Int32 → Prop) (J16 : AH → Option Nat → Int32 → Int32 → Int32 → Prop) (h : AH) (l0 : Option Nat) (l1 : Int32) (l2 : Int32) (l3 : Int32) : Prop :=
  (l2 ≤ l3 → J4 h l0 l1 (l2 + (1 : Int32))) ∧ (¬ l2 ≤ l3 → CS (sX11_itemShape E) [aI l2] h (kI fun x1 h2 => CS (sX11_itemShape E) [aI l3] h2 (kI fun x3 h4 => CV (sX11_itemX E) l0 11 [aI l3] h4 (kI fun x5 h6 => CV (sX11_itemX E) l0 11 [aI l2] h6 (kI fun x7 h8 => CV (sX11_itemY E) l0 11 [aI l3] h8 (kI fun x9 h10 => CV (sX11_itemY E) l0 11 [aI l2] h10 (kI fun x11 h12 => CV (sX11_lies E) l0 11 [aI x1, aI x3, aI (x5 - x7), aI (x9 - x11)] h12 (kI fun x13 h14 => (¬ x13 = (1 : Int32) → PX11_touchingPairs_65 E post J16 h14 l0 l2 l3 l1 (0 : Int32)) ∧ (x13 = (1 : Int32) → PX11_touchingPairs_65 E post J16 h14 l0 l2 l3 l1 (1 : Int32))))))))))
theorem bX11_touchingPairs_16 {E : EV} {X : AX} {post : Option AV → AH → Prop} (C : Cb E X cX11_touchingPairs RX11 4 rmX11_touchingPairs) (D : Cr E X (some .int) rmX11_touchingPairs "touchingPairs" post) {J4 : AH → Option Nat → Int32 → Int32 → Prop} (g4 : ∀ (h : AH) (l0 : Option Nat) (l1 : Int32) (l2 : Int32), J4 h l0 l1 l2 → Go E X 4 0 0 4 [(0, aP l0), (1, aI l1), (2, aI l2)] [] h) {J16 : AH → Option Nat → Int32 → Int32 → Int32 → Prop} (g16 : ∀ (h : AH) (l0 : Option Nat) (l1 : Int32) (l2 : Int32) (l3 : Int32), J16 h l0 l1 l2 l3 → Go E X 4 0 0 16 [(0, aP l0), (1, aI l1), (2, aI l2), (3, aI l3)] [] h) {h : AH} {l0 : Option Nat} {l1 : Int32} {l2 : Int32} {l3 : Int32} (w : PX11_touchingPairs_16 E post J4 J16 h l0 l1 l2 l3) : Go E X 4 0 0 16 [(0, aP l0), (1, aI l1), (2, aI l2), (3, aI l3)] [] h := by
  unfold PX11_touchingPairs_16 at w
  refine r_iload_n C dX11_touchingPairs_16 rfl 3 rfl ?_
  refine r_iload_n C dX11_touchingPairs_17 rfl 2 rfl ?_
  refine r_icmp_ge C dX11_touchingPairs_18 (tgt := 73) rfl (fun hc => ?_) (fun hc => ?_)
  · have w := w.1 hc
    refine r_iinc C dX11_touchingPairs_73 2 rfl (v := 1) rfl (by decide) rfl ?_
    refine r_goto C dX11_touchingPairs_76 (tgt := 4) rfl ?_
    exact r_sub [1, 2, 0] rfl (g4 h l0 l1 (l2 + (1 : Int32)) w)
  · have w := w.2 hc
    refine r_iload_n C dX11_touchingPairs_21 rfl 1 rfl ?_
    refine r_aload_n C dX11_touchingPairs_22 rfl 0 rfl ?_
    refine r_iload_n C dX11_touchingPairs_23 rfl 2 rfl ?_
    refine r_csI (rm' := rmX11_itemShape) C mX11_itemShape vX11_itemShape k1281 [aI l2] [aP l0, aI l1] rfl rfl (Nat.le_of_ble_eq_true rfl) (by decide) ⟨Nat.zero_le _, Nat.zero_le _⟩ 0 0 rfl rfl dX11_touchingPairs_24 w (fun x1 h2 w => ?_)
    refine r_iload_n C dX11_touchingPairs_27 rfl 3 rfl ?_
    refine r_csI (rm' := rmX11_itemShape) C mX11_itemShape vX11_itemShape k1281 [aI l3] [aI x1, aP l0, aI l1] rfl rfl (Nat.le_of_ble_eq_true rfl) (by decide) ⟨Nat.zero_le _, Nat.zero_le _⟩ 0 0 rfl rfl dX11_touchingPairs_28 w (fun x3 h4 w => ?_)
    refine r_aload_n C dX11_touchingPairs_31 rfl 0 rfl ?_
    refine r_iload_n C dX11_touchingPairs_32 rfl 3 rfl ?_
    refine r_cvI (rm' := rmX11_itemX) C mX11_itemX vX11_itemX k1284 [aI l3] [aI x3, aI x1, aP l0, aI l1] rfl rfl (Nat.le_of_ble_eq_true rfl) (by decide) ⟨Nat.zero_le _, Nat.zero_le _⟩ 0 0 rfl rfl dX11_touchingPairs_33 w (fun x5 h6 w => ?_)
    refine r_aload_n C dX11_touchingPairs_36 rfl 0 rfl ?_
    refine r_iload_n C dX11_touchingPairs_37 rfl 2 rfl ?_
    refine r_cvI (rm' := rmX11_itemX) C mX11_itemX vX11_itemX k1284 [aI l2] [aI x5, aI x3, aI x1, aP l0, aI l1] rfl rfl (Nat.le_of_ble_eq_true rfl) (by decide) ⟨Nat.zero_le _, Nat.zero_le _⟩ 0 0 rfl rfl dX11_touchingPairs_38 w (fun x7 h8 w => ?_)
    refine r_isub C dX11_touchingPairs_41 ?_
    refine r_aload_n C dX11_touchingPairs_42 rfl 0 rfl ?_
    refine r_iload_n C dX11_touchingPairs_43 rfl 3 rfl ?_
    refine r_cvI (rm' := rmX11_itemY) C mX11_itemY vX11_itemY k1288 [aI l3] [aI (x5 - x7), aI x3, aI x1, aP l0, aI l1] rfl rfl (Nat.le_of_ble_eq_true rfl) (by decide) ⟨Nat.zero_le _, Nat.zero_le _⟩ 0 0 rfl rfl dX11_touchingPairs_44 w (fun x9 h10 w => ?_)
    refine r_aload_n C dX11_touchingPairs_47 rfl 0 rfl ?_
    refine r_iload_n C dX11_touchingPairs_48 rfl 2 rfl ?_
    refine r_cvI (rm' := rmX11_itemY) C mX11_itemY vX11_itemY k1288 [aI l2] [aI x9, aI (x5 - x7), aI x3, aI x1, aP l0, aI l1] rfl rfl (Nat.le_of_ble_eq_true rfl) (by decide) ⟨Nat.zero_le _, Nat.zero_le _⟩ 0 0 rfl rfl dX11_touchingPairs_49 w (fun x11 h12 w => ?_)
    refine r_isub C dX11_touchingPairs_52 ?_
    refine r_cvI (rm' := rmX11_lies) C mX11_lies vX11_lies k1217 [aI x1, aI x3, aI (x5 - x7), aI (x9 - x11)] [aI l1] rfl rfl (Nat.le_of_ble_eq_true rfl) (by decide) ⟨Nat.zero_le _, Nat.zero_le _⟩ 0 0 rfl rfl dX11_touchingPairs_53 w (fun x13 h14 w => ?_)
    refine r_iconst (v := 1) C dX11_touchingPairs_56 rfl ?_
    refine r_icmp_ne C dX11_touchingPairs_57 (tgt := 64) rfl (fun hc => ?_) (fun hc => ?_)
    · have w := w.1 hc
      refine r_iconst (v := 0) C dX11_touchingPairs_64 rfl ?_
      exact r_sub [0, 2, 3] rfl (bX11_touchingPairs_65 C D g16 w)
    · have w := w.2 hc
      refine r_iconst (v := 1) C dX11_touchingPairs_60 rfl ?_
      refine r_goto C dX11_touchingPairs_61 (tgt := 65) rfl ?_
      exact r_sub [0, 2, 3] rfl (bX11_touchingPairs_65 C D g16 w)
theorem lpX11_touchingPairs_16 {E : EV} {X : AX} {post : Option AV → AH → Prop} (C : Cb E X cX11_touchingPairs RX11 4 rmX11_touchingPairs) (D : Cr E X (some .int) rmX11_touchingPairs "touchingPairs" post) {J4 : AH → Option Nat → Int32 → Int32 → Prop} (g4 : ∀ (h : AH) (l0 : Option Nat) (l1 : Int32) (l2 : Int32), J4 h l0 l1 l2 → Go E X 4 0 0 4 [(0, aP l0), (1, aI l1), (2, aI l2)] [] h) (I : Nat → AH → Option Nat → Int32 → Int32 → Int32 → Prop) (step : ∀ (z : Nat) (h : AH) (l0 : Option Nat) (l1 : Int32) (l2 : Int32) (l3 : Int32), I z h l0 l1 l2 l3 → PX11_touchingPairs_16 E post J4 (fun h l0 l1 l2 l3 => ∃ z', z' < z ∧ I z' h l0 l1 l2 l3) h l0 l1 l2 l3) : ∀ (z : Nat) (h : AH) (l0 : Option Nat) (l1 : Int32) (l2 : Int32) (l3 : Int32), I z h l0 l1 l2 l3 → Go E X 4 0 0 16 [(0, aP l0), (1, aI l1), (2, aI l2), (3, aI l3)] [] h := by
  intro z
  induction z using Nat.strongRecOn with
  | _ z ih =>
    intro h l0 l1 l2 l3 hI
    exact bX11_touchingPairs_16 C D g4 (fun h l0 l1 l2 l3 hJ => by obtain ⟨z', hz, hi⟩ := hJ; exact ih z' hz h l0 l1 l2 l3 hi) (step z h l0 l1 l2 l3 hI)
def PX11_touchingPairs_4 (E : EV) (post : Option AV → AH → Prop) (J16 : AH → Option Nat → Int32 → Int32 → Int32 → Prop) (h : AH) (l0 : Option Nat) (l1 : Int32) (l2 : Int32) : Prop :=
  rdP h l0 11 0 fun x1 => aldI h x1 0 (3 : Int32) fun x2 => (x2 ≤ l2 → post (some (aI l1)) h) ∧ (¬ x2 ≤ l2 → J16 h l0 l1 l2 (0 : Int32))
theorem bX11_touchingPairs_4 {E : EV} {X : AX} {post : Option AV → AH → Prop} (C : Cb E X cX11_touchingPairs RX11 4 rmX11_touchingPairs) (D : Cr E X (some .int) rmX11_touchingPairs "touchingPairs" post) {J16 : AH → Option Nat → Int32 → Int32 → Int32 → Prop} (g16 : ∀ (h : AH) (l0 : Option Nat) (l1 : Int32) (l2 : Int32) (l3 : Int32), J16 h l0 l1 l2 l3 → Go E X 4 0 0 16 [(0, aP l0), (1, aI l1), (2, aI l2), (3, aI l3)] [] h) {h : AH} {l0 : Option Nat} {l1 : Int32} {l2 : Int32} (w : PX11_touchingPairs_4 E post J16 h l0 l1 l2) : Go E X 4 0 0 4 [(0, aP l0), (1, aI l1), (2, aI l2)] [] h := by
  unfold PX11_touchingPairs_4 at w
  refine r_iload_n C dX11_touchingPairs_4 rfl 2 rfl ?_
  refine r_aload_n C dX11_touchingPairs_5 rfl 0 rfl ?_
  refine r_getP C fcX11 (f := 0) (by decide) rfl k943 dX11_touchingPairs_6 (w.mono fun x1 w => ?_)
  refine r_iconst (v := 3) C dX11_touchingPairs_9 rfl ?_
  refine r_iald C dX11_touchingPairs_10 (w.mono fun x2 w => ?_)
  refine r_icmp_ge C dX11_touchingPairs_11 (tgt := 79) rfl (fun hc => ?_) (fun hc => ?_)
  · have w := w.1 hc
    refine r_iload_n C dX11_touchingPairs_79 rfl 1 rfl ?_
    exact r_iret C D rfl (Nat.zero_le _) (Nat.zero_le _) dX11_touchingPairs_80 w
  · have w := w.2 hc
    refine r_iconst (v := 0) C dX11_touchingPairs_14 rfl ?_
    refine r_istore_n C dX11_touchingPairs_15 rfl (by decide) rfl ?_
    exact r_sub [1, 2, 3, 0] rfl (g16 h l0 l1 l2 (0 : Int32) w)
def PX11_touchingPairs_0 (E : EV) (post : Option AV → AH → Prop) (J4 : AH → Option Nat → Int32 → Int32 → Prop) (h : AH) (l0 : Option Nat) : Prop :=
  J4 h l0 (0 : Int32) (0 : Int32)
theorem bX11_touchingPairs_0 {E : EV} {X : AX} {post : Option AV → AH → Prop} (C : Cb E X cX11_touchingPairs RX11 4 rmX11_touchingPairs) (D : Cr E X (some .int) rmX11_touchingPairs "touchingPairs" post) {J4 : AH → Option Nat → Int32 → Int32 → Prop} (g4 : ∀ (h : AH) (l0 : Option Nat) (l1 : Int32) (l2 : Int32), J4 h l0 l1 l2 → Go E X 4 0 0 4 [(0, aP l0), (1, aI l1), (2, aI l2)] [] h) {h : AH} {l0 : Option Nat} (w : PX11_touchingPairs_0 E post J4 h l0) : Go E X 4 0 0 0 [(0, aP l0)] [] h := by
  unfold PX11_touchingPairs_0 at w
  refine r_iconst (v := 0) C dX11_touchingPairs_0 rfl ?_
  refine r_istore_n C dX11_touchingPairs_1 rfl (by decide) rfl ?_
  refine r_iconst (v := 0) C dX11_touchingPairs_2 rfl ?_
  refine r_istore_n C dX11_touchingPairs_3 rfl (by decide) rfl ?_
  exact r_sub [2, 1, 0] rfl (g4 h l0 (0 : Int32) (0 : Int32) w)
theorem eX11_touchingPairs {E : EV} {post : Option AV → AH → Prop} {h : AH} {l0 : Option Nat} {J4 : AH → Option Nat → Int32 → Int32 → Prop} (g4 : ∀ X : AX, Cb E X cX11_touchingPairs RX11 4 rmX11_touchingPairs → Cr E X (some .int) rmX11_touchingPairs "touchingPairs" post → ∀ (h : AH) (l0 : Option Nat) (l1 : Int32) (l2 : Int32), J4 h l0 l1 l2 → Go E X 4 0 0 4 [(0, aP l0), (1, aI l1), (2, aI l2)] [] h) (w : PX11_touchingPairs_0 E post J4 h l0) : sX11_touchingPairs E [aP l0] h post := Spec.of RX11 rfl rfl (Nat.le_of_ble_eq_true rfl) fun X C D => bX11_touchingPairs_0 C D (g4 X C D) w
theorem dX11_undo_0 : decode cX11_undo 0 = .ok (.aload_n 0, 1) := by decide +kernel
theorem dX11_undo_1 : decode cX11_undo 1 = .ok (.getfield 38, 3) := by decide +kernel
theorem dX11_undo_4 : decode cX11_undo 4 = .ok (.ifCond .ne 6, 3) := by decide +kernel
theorem dX11_undo_7 : decode cX11_undo 7 = .ok (.ldc 42, 2) := by decide +kernel
theorem dX11_undo_9 : decode cX11_undo 9 = .ok (.ireturn, 1) := by decide +kernel
theorem dX11_undo_10 : decode cX11_undo 10 = .ok (.aload_n 0, 1) := by decide +kernel
theorem dX11_undo_11 : decode cX11_undo 11 = .ok (.invokevirtual 43, 3) := by decide +kernel
theorem dX11_undo_14 : decode cX11_undo 14 = .ok (.aload_n 0, 1) := by decide +kernel
theorem dX11_undo_15 : decode cX11_undo 15 = .ok (.getfield 38, 3) := by decide +kernel
theorem dX11_undo_18 : decode cX11_undo 18 = .ok (.ireturn, 1) := by decide +kernel
abbrev rmX11_undo : Room := { frames := 1, cells := 0, slots := 0, locals := 40 }
abbrev sX11_undo (E : EV) : List AV → AH → (Option AV → AH → Prop) → Prop := Spec E yX11_undo cX11_undo 1 (some .int) rmX11_undo
theorem mX11_undo : Mt yX11_undo cX11_undo 1 (some .int) 0 := ⟨k1026, k12, by decide +kernel⟩
theorem vX11_undo : MtV yX11_undo 11 := ⟨k1024, k1025, by decide, (RX11, TX11, 26), rfl, rfl⟩
def PX11_undo_0 (E : EV) (post : Option AV → AH → Prop) (h : AH) (l0 : Option Nat) : Prop :=
  rdI h l0 11 2 fun x1 => (¬ x1 = 0 → CV (sX11_goesBack E) l0 11 [] h (kV fun h3 => rdI h3 l0 11 2 fun x4 => post (some (aI x4)) h3)) ∧ (x1 = 0 → post (some (aI (-1000002 : Int32))) h)
theorem bX11_undo_0 {E : EV} {X : AX} {post : Option AV → AH → Prop} (C : Cb E X cX11_undo RX11 1 rmX11_undo) (D : Cr E X (some .int) rmX11_undo "undo" post) {h : AH} {l0 : Option Nat} (w : PX11_undo_0 E post h l0) : Go E X 1 0 0 0 [(0, aP l0)] [] h := by
  unfold PX11_undo_0 at w
  refine r_aload_n C dX11_undo_0 rfl 0 rfl ?_
  refine r_getI C fcX11 (f := 2) (by decide) rfl k945 dX11_undo_1 (w.mono fun x1 w => ?_)
  refine r_if_ne C dX11_undo_4 (tgt := 10) rfl (fun hc => ?_) (fun hc => ?_)
  · have w := w.1 hc
    refine r_aload_n C dX11_undo_10 rfl 0 rfl ?_
    refine r_cvV (rm' := rmX11_goesBack) C mX11_goesBack vX11_goesBack k1028 [] [] rfl rfl (Nat.le_of_ble_eq_true rfl) (by decide) ⟨Nat.zero_le _, Nat.zero_le _⟩ 0 0 rfl rfl dX11_undo_11 w (fun h3 w => ?_)
    refine r_aload_n C dX11_undo_14 rfl 0 rfl ?_
    refine r_getI C fcX11 (f := 2) (by decide) rfl k945 dX11_undo_15 (w.mono fun x4 w => ?_)
    exact r_iret C D rfl (Nat.zero_le _) (Nat.zero_le _) dX11_undo_18 w
  · have w := w.2 hc
    refine r_ldc (v := -1000002) C dX11_undo_7 k1027 ?_
    exact r_iret C D rfl (Nat.zero_le _) (Nat.zero_le _) dX11_undo_9 w
theorem eX11_undo {E : EV} {post : Option AV → AH → Prop} {h : AH} {l0 : Option Nat} (w : PX11_undo_0 E post h l0) : sX11_undo E [aP l0] h post := Spec.of RX11 rfl rfl (Nat.le_of_ble_eq_true rfl) fun X C D => bX11_undo_0 C D w
