theorem dX11_normals_0 : decode cX11_normals 0 = .ok (.iconst 4, 1) := by decide +kernel
theorem dX11_normals_1 : decode cX11_normals 1 = .ok (.aload_n 0, 1) := by decide +kernel
theorem dX11_normals_2 : decode cX11_normals 2 = .ok (.iload_n 1, 1) := by decide +kernel
theorem dX11_normals_3 : decode cX11_normals 3 = .ok (.iload_n 2, 1) := by decide +kernel
theorem dX11_normals_4 : decode cX11_normals 4 = .ok (.invokevirtual 54, 3) := by decide +kernel
theorem dX11_normals_7 : decode cX11_normals 7 = .ok (.iadd, 1) := by decide +kernel
theorem dX11_normals_8 : decode cX11_normals 8 = .ok (.aload_n 0, 1) := by decide +kernel
theorem dX11_normals_9 : decode cX11_normals 9 = .ok (.iload_n 3, 1) := by decide +kernel
theorem dX11_normals_10 : decode cX11_normals 10 = .ok (.iload 4, 2) := by decide +kernel
theorem dX11_normals_12 : decode cX11_normals 12 = .ok (.invokevirtual 54, 3) := by decide +kernel
theorem dX11_normals_15 : decode cX11_normals 15 = .ok (.iadd, 1) := by decide +kernel
theorem dX11_normals_16 : decode cX11_normals 16 = .ok (.ireturn, 1) := by decide +kernel
abbrev rmX11_normals : Room := { frames := 1, cells := 0, slots := 0, locals := 40 }
abbrev sX11_normals (E : EV) : List AV → AH → (Option AV → AH → Prop) → Prop := Spec E yX11_normals cX11_normals 5 (some .int) rmX11_normals
theorem mX11_normals : Mt yX11_normals cX11_normals 5 (some .int) 4 := ⟨k1232, k12, by decide +kernel⟩
theorem vX11_normals : MtV yX11_normals 11 := ⟨k1231, kp58, by decide, (RX11, TX11, 26), rfl, rfl⟩
def PX11_normals_0 (E : EV) (post : Option AV → AH → Prop) (h : AH) (l0 : Option Nat) (l1 : Int32) (l2 : Int32) (l3 : Int32) (l4 : Int32) : Prop :=
  CV (sX11_vertices E) l0 11 [aI l1, aI l2] h (kI fun x1 h2 => CV (sX11_vertices E) l0 11 [aI l3, aI l4] h2 (kI fun x3 h4 => post (some (aI (((4 : Int32) + x1) + x3))) h4))
theorem bX11_normals_0 {E : EV} {X : AX} {post : Option AV → AH → Prop} (C : Cb E X cX11_normals RX11 5 rmX11_normals) (D : Cr E X (some .int) rmX11_normals "normals" post) {h : AH} {l0 : Option Nat} {l1 : Int32} {l2 : Int32} {l3 : Int32} {l4 : Int32} (w : PX11_normals_0 E post h l0 l1 l2 l3 l4) : Go E X 5 0 0 0 [(0, aP l0), (1, aI l1), (2, aI l2), (3, aI l3), (4, aI l4)] [] h := by
  unfold PX11_normals_0 at w
  refine r_iconst (v := 4) C dX11_normals_0 rfl ?_
  refine r_aload_n C dX11_normals_1 rfl 0 rfl ?_
  refine r_iload_n C dX11_normals_2 rfl 1 rfl ?_
  refine r_iload_n C dX11_normals_3 rfl 2 rfl ?_
  refine r_cvI (rm' := rmX11_vertices) C mX11_vertices vX11_vertices k1072 [aI l1, aI l2] [aI (4 : Int32)] rfl rfl (Nat.le_of_ble_eq_true rfl) (by decide) ⟨Nat.zero_le _, Nat.zero_le _⟩ 0 0 rfl rfl dX11_normals_4 w (fun x1 h2 w => ?_)
  refine r_iadd C dX11_normals_7 ?_
  refine r_aload_n C dX11_normals_8 rfl 0 rfl ?_
  refine r_iload_n C dX11_normals_9 rfl 3 rfl ?_
  refine r_iload C dX11_normals_10 4 rfl ?_
  refine r_cvI (rm' := rmX11_vertices) C mX11_vertices vX11_vertices k1072 [aI l3, aI l4] [aI ((4 : Int32) + x1)] rfl rfl (Nat.le_of_ble_eq_true rfl) (by decide) ⟨Nat.zero_le _, Nat.zero_le _⟩ 0 0 rfl rfl dX11_normals_12 w (fun x3 h4 w => ?_)
  refine r_iadd C dX11_normals_15 ?_
  exact r_iret C D rfl (Nat.zero_le _) (Nat.zero_le _) dX11_normals_16 w
theorem eX11_normals {E : EV} {post : Option AV → AH → Prop} {h : AH} {l0 : Option Nat} {l1 : Int32} {l2 : Int32} {l3 : Int32} {l4 : Int32} (w : PX11_normals_0 E post h l0 l1 l2 l3 l4) : sX11_normals E [aP l0, aI l1, aI l2, aI l3, aI l4] h post := Spec.of RX11 rfl rfl (Nat.le_of_ble_eq_true rfl) fun X C D => bX11_normals_0 C D w
theorem dX11_dirX_0 : decode cX11_dirX 0 = .ok (.iload_n 0, 1) := by decide +kernel
theorem dX11_dirX_1 : decode cX11_dirX 1 = .ok (.iconst 2, 1) := by decide +kernel
theorem dX11_dirX_2 : decode cX11_dirX 2 = .ok (.if_icmp .lt 9, 3) := by decide +kernel
theorem dX11_dirX_5 : decode cX11_dirX 5 = .ok (.iload_n 0, 1) := by decide +kernel
theorem dX11_dirX_6 : decode cX11_dirX 6 = .ok (.bipush 7, 2) := by decide +kernel
theorem dX11_dirX_8 : decode cX11_dirX 8 = .ok (.if_icmp .ne 7, 3) := by decide +kernel
theorem dX11_dirX_11 : decode cX11_dirX 11 = .ok (.iconst 1, 1) := by decide +kernel
theorem dX11_dirX_12 : decode cX11_dirX 12 = .ok (.goto 19, 3) := by decide +kernel
theorem dX11_dirX_15 : decode cX11_dirX 15 = .ok (.iload_n 0, 1) := by decide +kernel
theorem dX11_dirX_16 : decode cX11_dirX 16 = .ok (.iconst 2, 1) := by decide +kernel
theorem dX11_dirX_17 : decode cX11_dirX 17 = .ok (.if_icmp .eq 9, 3) := by decide +kernel
theorem dX11_dirX_20 : decode cX11_dirX 20 = .ok (.iload_n 0, 1) := by decide +kernel
theorem dX11_dirX_21 : decode cX11_dirX 21 = .ok (.bipush 6, 2) := by decide +kernel
theorem dX11_dirX_23 : decode cX11_dirX 23 = .ok (.if_icmp .ne 7, 3) := by decide +kernel
theorem dX11_dirX_26 : decode cX11_dirX 26 = .ok (.iconst 0, 1) := by decide +kernel
theorem dX11_dirX_27 : decode cX11_dirX 27 = .ok (.goto 4, 3) := by decide +kernel
theorem dX11_dirX_30 : decode cX11_dirX 30 = .ok (.iconst (-1), 1) := by decide +kernel
theorem dX11_dirX_31 : decode cX11_dirX 31 = .ok (.ireturn, 1) := by decide +kernel
abbrev rmX11_dirX : Room := { frames := 0, cells := 0, slots := 0, locals := 0 }
abbrev sX11_dirX (E : EV) : List AV → AH → (Option AV → AH → Prop) → Prop := Spec E yX11_dirX cX11_dirX 1 (some .int) rmX11_dirX
theorem mX11_dirX : Mt yX11_dirX cX11_dirX 1 (some .int) 1 := ⟨k1177, k12, by decide +kernel⟩
theorem vX11_dirX : MtS yX11_dirX := k1176
def PX11_dirX_0 (E : EV) (post : Option AV → AH → Prop) (h : AH) (l0 : Int32) : Prop :=
  (l0 < (2 : Int32) → post (some (aI (1 : Int32))) h) ∧ (¬ l0 < (2 : Int32) → (¬ l0 = (7 : Int32) → (l0 = (2 : Int32) → post (some (aI (0 : Int32))) h) ∧ (¬ l0 = (2 : Int32) → (¬ l0 = (6 : Int32) → post (some (aI (-1 : Int32))) h) ∧ (l0 = (6 : Int32) → post (some (aI (0 : Int32))) h))) ∧ (l0 = (7 : Int32) → post (some (aI (1 : Int32))) h))
theorem bX11_dirX_0 {E : EV} {X : AX} {post : Option AV → AH → Prop} (C : Cb E X cX11_dirX RX11 1 rmX11_dirX) (D : Cr E X (some .int) rmX11_dirX "dirX" post) {h : AH} {l0 : Int32} (w : PX11_dirX_0 E post h l0) : Go E X 1 0 0 0 [(0, aI l0)] [] h := by
  unfold PX11_dirX_0 at w
  refine r_iload_n C dX11_dirX_0 rfl 0 rfl ?_
  refine r_iconst (v := 2) C dX11_dirX_1 rfl ?_
  refine r_icmp_lt C dX11_dirX_2 (tgt := 11) rfl (fun hc => ?_) (fun hc => ?_)
  · have w := w.1 hc
    refine r_iconst (v := 1) C dX11_dirX_11 rfl ?_
    refine r_goto C dX11_dirX_12 (tgt := 31) rfl ?_
    exact r_iret C D rfl (Nat.zero_le _) (Nat.zero_le _) dX11_dirX_31 w
  · have w := w.2 hc
    refine r_iload_n C dX11_dirX_5 rfl 0 rfl ?_
    refine r_bipush (v := 7) C dX11_dirX_6 rfl ?_
    refine r_icmp_ne C dX11_dirX_8 (tgt := 15) rfl (fun hc => ?_) (fun hc => ?_)
    · have w := w.1 hc
      refine r_iload_n C dX11_dirX_15 rfl 0 rfl ?_
      refine r_iconst (v := 2) C dX11_dirX_16 rfl ?_
      refine r_icmp_eq C dX11_dirX_17 (tgt := 26) rfl (fun hc => ?_) (fun hc => ?_)
      · have w := w.1 hc
        refine r_iconst (v := 0) C dX11_dirX_26 rfl ?_
        refine r_goto C dX11_dirX_27 (tgt := 31) rfl ?_
        exact r_iret C D rfl (Nat.zero_le _) (Nat.zero_le _) dX11_dirX_31 w
      · have w := w.2 hc
        refine r_iload_n C dX11_dirX_20 rfl 0 rfl ?_
        refine r_bipush (v := 6) C dX11_dirX_21 rfl ?_
        refine r_icmp_ne C dX11_dirX_23 (tgt := 30) rfl (fun hc => ?_) (fun hc => ?_)
        · have w := w.1 hc
          refine r_iconst (v := -1) C dX11_dirX_30 rfl ?_
          exact r_iret C D rfl (Nat.zero_le _) (Nat.zero_le _) dX11_dirX_31 w
        · have w := w.2 hc
          refine r_iconst (v := 0) C dX11_dirX_26 rfl ?_
          refine r_goto C dX11_dirX_27 (tgt := 31) rfl ?_
          exact r_iret C D rfl (Nat.zero_le _) (Nat.zero_le _) dX11_dirX_31 w
    · have w := w.2 hc
      refine r_iconst (v := 1) C dX11_dirX_11 rfl ?_
      refine r_goto C dX11_dirX_12 (tgt := 31) rfl ?_
      exact r_iret C D rfl (Nat.zero_le _) (Nat.zero_le _) dX11_dirX_31 w
theorem eX11_dirX {E : EV} {post : Option AV → AH → Prop} {h : AH} {l0 : Int32} (w : PX11_dirX_0 E post h l0) : sX11_dirX E [aI l0] h post := Spec.of RX11 rfl rfl (Nat.le_of_ble_eq_true rfl) fun X C D => bX11_dirX_0 C D w
theorem dX11_dirY_0 : decode cX11_dirY 0 = .ok (.iload_n 0, 1) := by decide +kernel
theorem dX11_dirY_1 : decode cX11_dirY 1 = .ok (.iconst 4, 1) := by decide +kernel
theorem dX11_dirY_2 : decode cX11_dirY 2 = .ok (.irem, 1) := by decide +kernel
theorem dX11_dirY_3 : decode cX11_dirY 3 = .ok (.ifCond .ne 7, 3) := by decide +kernel
theorem dX11_dirY_6 : decode cX11_dirY 6 = .ok (.iconst 0, 1) := by decide +kernel
theorem dX11_dirY_7 : decode cX11_dirY 7 = .ok (.goto 13, 3) := by decide +kernel
theorem dX11_dirY_10 : decode cX11_dirY 10 = .ok (.iload_n 0, 1) := by decide +kernel
theorem dX11_dirY_11 : decode cX11_dirY 11 = .ok (.iconst 4, 1) := by decide +kernel
theorem dX11_dirY_12 : decode cX11_dirY 12 = .ok (.if_icmp .ge 7, 3) := by decide +kernel
theorem dX11_dirY_15 : decode cX11_dirY 15 = .ok (.iconst 1, 1) := by decide +kernel
theorem dX11_dirY_16 : decode cX11_dirY 16 = .ok (.goto 4, 3) := by decide +kernel
theorem dX11_dirY_19 : decode cX11_dirY 19 = .ok (.iconst (-1), 1) := by decide +kernel
theorem dX11_dirY_20 : decode cX11_dirY 20 = .ok (.ireturn, 1) := by decide +kernel
abbrev rmX11_dirY : Room := { frames := 0, cells := 0, slots := 0, locals := 0 }
abbrev sX11_dirY (E : EV) : List AV → AH → (Option AV → AH → Prop) → Prop := Spec E yX11_dirY cX11_dirY 1 (some .int) rmX11_dirY
theorem mX11_dirY : Mt yX11_dirY cX11_dirY 1 (some .int) 1 := ⟨k1180, k12, by decide +kernel⟩
theorem vX11_dirY : MtS yX11_dirY := k1179
def PX11_dirY_0 (E : EV) (post : Option AV → AH → Prop) (h : AH) (l0 : Int32) : Prop :=
  ¬ (4 : Int32) = 0 ∧ ((¬ (l0 - l0 / (4 : Int32) * (4 : Int32)) = 0 → ((4 : Int32) ≤ l0 → post (some (aI (-1 : Int32))) h) ∧ (¬ (4 : Int32) ≤ l0 → post (some (aI (1 : Int32))) h)) ∧ ((l0 - l0 / (4 : Int32) * (4 : Int32)) = 0 → post (some (aI (0 : Int32))) h))
theorem bX11_dirY_0 {E : EV} {X : AX} {post : Option AV → AH → Prop} (C : Cb E X cX11_dirY RX11 1 rmX11_dirY) (D : Cr E X (some .int) rmX11_dirY "dirY" post) {h : AH} {l0 : Int32} (w : PX11_dirY_0 E post h l0) : Go E X 1 0 0 0 [(0, aI l0)] [] h := by
  unfold PX11_dirY_0 at w
  refine r_iload_n C dX11_dirY_0 rfl 0 rfl ?_
  refine r_iconst (v := 4) C dX11_dirY_1 rfl ?_
  refine r_irem C dX11_dirY_2 w.1 ?_
  have w := w.2
  refine r_if_ne C dX11_dirY_3 (tgt := 10) rfl (fun hc => ?_) (fun hc => ?_)
  · have w := w.1 hc
    refine r_iload_n C dX11_dirY_10 rfl 0 rfl ?_
    refine r_iconst (v := 4) C dX11_dirY_11 rfl ?_
    refine r_icmp_ge C dX11_dirY_12 (tgt := 19) rfl (fun hc => ?_) (fun hc => ?_)
    · have w := w.1 hc
      refine r_iconst (v := -1) C dX11_dirY_19 rfl ?_
      exact r_iret C D rfl (Nat.zero_le _) (Nat.zero_le _) dX11_dirY_20 w
    · have w := w.2 hc
      refine r_iconst (v := 1) C dX11_dirY_15 rfl ?_
      refine r_goto C dX11_dirY_16 (tgt := 20) rfl ?_
      exact r_iret C D rfl (Nat.zero_le _) (Nat.zero_le _) dX11_dirY_20 w
  · have w := w.2 hc
    refine r_iconst (v := 0) C dX11_dirY_6 rfl ?_
    refine r_goto C dX11_dirY_7 (tgt := 20) rfl ?_
    exact r_iret C D rfl (Nat.zero_le _) (Nat.zero_le _) dX11_dirY_20 w
theorem eX11_dirY {E : EV} {post : Option AV → AH → Prop} {h : AH} {l0 : Int32} (w : PX11_dirY_0 E post h l0) : sX11_dirY E [aI l0] h post := Spec.of RX11 rfl rfl (Nat.le_of_ble_eq_true rfl) fun X C D => bX11_dirY_0 C D w
theorem dX11_normal_0 : decode cX11_normal 0 = .ok (.iload 5, 2) := by decide +kernel
theorem dX11_normal_2 : decode cX11_normal 2 = .ok (.iconst 4, 1) := by decide +kernel
theorem dX11_normal_3 : decode cX11_normal 3 = .ok (.if_icmp .ge 28, 3) := by decide +kernel
theorem dX11_normal_6 : decode cX11_normal 6 = .ok (.aload_n 0, 1) := by decide +kernel
theorem dX11_normal_7 : decode cX11_normal 7 = .ok (.iconst 2, 1) := by decide +kernel
theorem dX11_normal_8 : decode cX11_normal 8 = .ok (.iload 5, 2) := by decide +kernel
theorem dX11_normal_10 : decode cX11_normal 10 = .ok (.imul, 1) := by decide +kernel
theorem dX11_normal_11 : decode cX11_normal 11 = .ok (.invokestatic 73, 3) := by decide +kernel
theorem dX11_normal_14 : decode cX11_normal 14 = .ok (.putfield 76, 3) := by decide +kernel
theorem dX11_normal_17 : decode cX11_normal 17 = .ok (.aload_n 0, 1) := by decide +kernel
theorem dX11_normal_18 : decode cX11_normal 18 = .ok (.iconst 2, 1) := by decide +kernel
theorem dX11_normal_19 : decode cX11_normal 19 = .ok (.iload 5, 2) := by decide +kernel
theorem dX11_normal_21 : decode cX11_normal 21 = .ok (.imul, 1) := by decide +kernel
theorem dX11_normal_22 : decode cX11_normal 22 = .ok (.invokestatic 79, 3) := by decide +kernel
theorem dX11_normal_25 : decode cX11_normal 25 = .ok (.putfield 82, 3) := by decide +kernel
theorem dX11_normal_28 : decode cX11_normal 28 = .ok (.goto 132, 3) := by decide +kernel
theorem dX11_normal_31 : decode cX11_normal 31 = .ok (.iload 5, 2) := by decide +kernel
theorem dX11_normal_33 : decode cX11_normal 33 = .ok (.iconst 4, 1) := by decide +kernel
theorem dX11_normal_34 : decode cX11_normal 34 = .ok (.aload_n 0, 1) := by decide +kernel
theorem dX11_normal_35 : decode cX11_normal 35 = .ok (.iload_n 1, 1) := by decide +kernel
theorem dX11_normal_36 : decode cX11_normal 36 = .ok (.iload_n 2, 1) := by decide +kernel
theorem dX11_normal_37 : decode cX11_normal 37 = .ok (.invokevirtual 54, 3) := by decide +kernel
theorem dX11_normal_40 : decode cX11_normal 40 = .ok (.iadd, 1) := by decide +kernel
theorem dX11_normal_41 : decode cX11_normal 41 = .ok (.if_icmp .ge 56, 3) := by decide +kernel
theorem dX11_normal_44 : decode cX11_normal 44 = .ok (.aload_n 0, 1) := by decide +kernel
theorem dX11_normal_45 : decode cX11_normal 45 = .ok (.aload_n 0, 1) := by decide +kernel
theorem dX11_normal_46 : decode cX11_normal 46 = .ok (.iload_n 1, 1) := by decide +kernel
theorem dX11_normal_47 : decode cX11_normal 47 = .ok (.iload_n 2, 1) := by decide +kernel
theorem dX11_normal_48 : decode cX11_normal 48 = .ok (.iload 5, 2) := by decide +kernel
theorem dX11_normal_50 : decode cX11_normal 50 = .ok (.iconst 3, 1) := by decide +kernel
theorem dX11_normal_51 : decode cX11_normal 51 = .ok (.isub, 1) := by decide +kernel
theorem dX11_normal_52 : decode cX11_normal 52 = .ok (.invokevirtual 62, 3) := by decide +kernel
theorem dX11_normal_55 : decode cX11_normal 55 = .ok (.aload_n 0, 1) := by decide +kernel
theorem dX11_normal_56 : decode cX11_normal 56 = .ok (.iload_n 1, 1) := by decide +kernel
theorem dX11_normal_57 : decode cX11_normal 57 = .ok (.iload_n 2, 1) := by decide +kernel
theorem dX11_normal_58 : decode cX11_normal 58 = .ok (.iload 5, 2) := by decide +kernel
theorem dX11_normal_60 : decode cX11_normal 60 = .ok (.iconst 4, 1) := by decide +kernel
theorem dX11_normal_61 : decode cX11_normal 61 = .ok (.isub, 1) := by decide +kernel
theorem dX11_normal_62 : decode cX11_normal 62 = .ok (.invokevirtual 62, 3) := by decide +kernel
theorem dX11_normal_65 : decode cX11_normal 65 = .ok (.isub, 1) := by decide +kernel
theorem dX11_normal_66 : decode cX11_normal 66 = .ok (.putfield 76, 3) := by decide +kernel
theorem dX11_normal_69 : decode cX11_normal 69 = .ok (.aload_n 0, 1) := by decide +kernel
theorem dX11_normal_70 : decode cX11_normal 70 = .ok (.aload_n 0, 1) := by decide +kernel
theorem dX11_normal_71 : decode cX11_normal 71 = .ok (.iload_n 1, 1) := by decide +kernel
theorem dX11_normal_72 : decode cX11_normal 72 = .ok (.iload_n 2, 1) := by decide +kernel
theorem dX11_normal_73 : decode cX11_normal 73 = .ok (.iload 5, 2) := by decide +kernel
theorem dX11_normal_75 : decode cX11_normal 75 = .ok (.iconst 4, 1) := by decide +kernel
theorem dX11_normal_76 : decode cX11_normal 76 = .ok (.isub, 1) := by decide +kernel
theorem dX11_normal_77 : decode cX11_normal 77 = .ok (.invokevirtual 58, 3) := by decide +kernel
theorem dX11_normal_80 : decode cX11_normal 80 = .ok (.aload_n 0, 1) := by decide +kernel
theorem dX11_normal_81 : decode cX11_normal 81 = .ok (.iload_n 1, 1) := by decide +kernel
theorem dX11_normal_82 : decode cX11_normal 82 = .ok (.iload_n 2, 1) := by decide +kernel
theorem dX11_normal_83 : decode cX11_normal 83 = .ok (.iload 5, 2) := by decide +kernel
theorem dX11_normal_85 : decode cX11_normal 85 = .ok (.iconst 3, 1) := by decide +kernel
theorem dX11_normal_86 : decode cX11_normal 86 = .ok (.isub, 1) := by decide +kernel
theorem dX11_normal_87 : decode cX11_normal 87 = .ok (.invokevirtual 58, 3) := by decide +kernel
theorem dX11_normal_90 : decode cX11_normal 90 = .ok (.isub, 1) := by decide +kernel
theorem dX11_normal_91 : decode cX11_normal 91 = .ok (.putfield 82, 3) := by decide +kernel
theorem dX11_normal_94 : decode cX11_normal 94 = .ok (.goto 66, 3) := by decide +kernel
theorem dX11_normal_97 : decode cX11_normal 97 = .ok (.iload 5, 2) := by decide +kernel
theorem dX11_normal_99 : decode cX11_normal 99 = .ok (.iconst 4, 1) := by decide +kernel
theorem dX11_normal_100 : decode cX11_normal 100 = .ok (.isub, 1) := by decide +kernel
theorem dX11_normal_101 : decode cX11_normal 101 = .ok (.aload_n 0, 1) := by decide +kernel
theorem dX11_normal_102 : decode cX11_normal 102 = .ok (.iload_n 1, 1) := by decide +kernel
theorem dX11_normal_103 : decode cX11_normal 103 = .ok (.iload_n 2, 1) := by decide +kernel
theorem dX11_normal_104 : decode cX11_normal 104 = .ok (.invokevirtual 54, 3) := by decide +kernel
theorem dX11_normal_107 : decode cX11_normal 107 = .ok (.isub, 1) := by decide +kernel
theorem dX11_normal_108 : decode cX11_normal 108 = .ok (.istore 6, 2) := by decide +kernel
theorem dX11_normal_110 : decode cX11_normal 110 = .ok (.aload_n 0, 1) := by decide +kernel
theorem dX11_normal_111 : decode cX11_normal 111 = .ok (.aload_n 0, 1) := by decide +kernel
theorem dX11_normal_112 : decode cX11_normal 112 = .ok (.iload_n 3, 1) := by decide +kernel
theorem dX11_normal_113 : decode cX11_normal 113 = .ok (.iload 4, 2) := by decide +kernel
theorem dX11_normal_115 : decode cX11_normal 115 = .ok (.iload 6, 2) := by decide +kernel
theorem dX11_normal_117 : decode cX11_normal 117 = .ok (.invokevirtual 62, 3) := by decide +kernel
theorem dX11_normal_120 : decode cX11_normal 120 = .ok (.aload_n 0, 1) := by decide +kernel
theorem dX11_normal_121 : decode cX11_normal 121 = .ok (.iload_n 3, 1) := by decide +kernel
theorem dX11_normal_122 : decode cX11_normal 122 = .ok (.iload 4, 2) := by decide +kernel
theorem dX11_normal_124 : decode cX11_normal 124 = .ok (.iload 6, 2) := by decide +kernel
theorem dX11_normal_126 : decode cX11_normal 126 = .ok (.iconst 1, 1) := by decide +kernel
theorem dX11_normal_127 : decode cX11_normal 127 = .ok (.iadd, 1) := by decide +kernel
theorem dX11_normal_128 : decode cX11_normal 128 = .ok (.invokevirtual 62, 3) := by decide +kernel
theorem dX11_normal_131 : decode cX11_normal 131 = .ok (.isub, 1) := by decide +kernel
theorem dX11_normal_132 : decode cX11_normal 132 = .ok (.putfield 76, 3) := by decide +kernel
theorem dX11_normal_135 : decode cX11_normal 135 = .ok (.aload_n 0, 1) := by decide +kernel
theorem dX11_normal_136 : decode cX11_normal 136 = .ok (.aload_n 0, 1) := by decide +kernel
theorem dX11_normal_137 : decode cX11_normal 137 = .ok (.iload_n 3, 1) := by decide +kernel
theorem dX11_normal_138 : decode cX11_normal 138 = .ok (.iload 4, 2) := by decide +kernel
theorem dX11_normal_140 : decode cX11_normal 140 = .ok (.iload 6, 2) := by decide +kernel
theorem dX11_normal_142 : decode cX11_normal 142 = .ok (.iconst 1, 1) := by decide +kernel
theorem dX11_normal_143 : decode cX11_normal 143 = .ok (.iadd, 1) := by decide +kernel
theorem dX11_normal_144 : decode cX11_normal 144 = .ok (.invokevirtual 58, 3) := by decide +kernel
theorem dX11_normal_147 : decode cX11_normal 147 = .ok (.aload_n 0, 1) := by decide +kernel
theorem dX11_normal_148 : decode cX11_normal 148 = .ok (.iload_n 3, 1) := by decide +kernel
theorem dX11_normal_149 : decode cX11_normal 149 = .ok (.iload 4, 2) := by decide +kernel
theorem dX11_normal_151 : decode cX11_normal 151 = .ok (.iload 6, 2) := by decide +kernel
theorem dX11_normal_153 : decode cX11_normal 153 = .ok (.invokevirtual 58, 3) := by decide +kernel
theorem dX11_normal_156 : decode cX11_normal 156 = .ok (.isub, 1) := by decide +kernel
theorem dX11_normal_157 : decode cX11_normal 157 = .ok (.putfield 82, 3) := by decide +kernel
theorem dX11_normal_160 : decode cX11_normal 160 = .ok (.return_, 1) := by decide +kernel
abbrev rmX11_normal : Room := { frames := 1, cells := 0, slots := 0, locals := 40 }
abbrev sX11_normal (E : EV) : List AV → AH → (Option AV → AH → Prop) → Prop := Spec E yX11_normal cX11_normal 7 none rmX11_normal
theorem mX11_normal : Mt yX11_normal cX11_normal 7 none 5 := ⟨k1236, k12, by decide +kernel⟩
theorem vX11_normal : MtV yX11_normal 11 := ⟨k1235, kp59, by decide, (RX11, TX11, 26), rfl, rfl⟩
def PX11_normal_0 (E : EV) (post : Option AV → AH → Prop) (h : AH) (l0 : Option Nat) (l1 : Int32) (l2 : Int32) (l3 : Int32) (l4 : Int32) (l5 : Int32) : Prop :=
  ((4 : Int32) ≤ l5 → CV (sX11_vertices E) l0 11 [aI l1, aI l2] h (kI fun x1 h2 => (((4 : Int32) + x1) ≤ l5 → CV (sX11_vertices E) l0 11 [aI l1, aI l2] h2 (kI fun x3 h4 => ∀ v5, v5 = ((l5 - (4 : Int32)) - x3) → CV (sX11_yOf E) l0 11 [aI l3, aI l4, aI v5] h4 (kI fun x6 h7 => CV (sX11_yOf E) l0 11 [aI l3, aI l4, aI (v5 + (1 : Int32))] h7 (kI fun x8 h9 => wr h9 l0 11 5 (aI (x6 - x8)) fun h10 => CV (sX11_xOf E) l0 11 [aI l3, aI l4, aI (v5 + (1 : Int32))] h10 (kI fun x11 h12 => CV (sX11_xOf E) l0 11 [aI l3, aI l4, aI v5] h12 (kI fun x13 h14 => wr h14 l0 11 6 (aI (x11 - x13)) fun h15 => post none h15)))))) ∧ (¬ ((4 : Int32) + x1) ≤ l5 → CV (sX11_yOf E) l0 11 [aI l1, aI l2, aI (l5 - (3 : Int32))] h2 (kI fun x3 h4 => CV (sX11_yOf E) l0 11 [aI l1, aI l2, aI (l5 - (4 : Int32))] h4 (kI fun x5 h6 => wr h6 l0 11 5 (aI (x3 - x5)) fun h7 => CV (sX11_xOf E) l0 11 [aI l1, aI l2, aI (l5 - (4 : Int32))] h7 (kI fun x8 h9 => CV (sX11_xOf E) l0 11 [aI l1, aI l2, aI (l5 - (3 : Int32))] h9 (kI fun x10 h11 => wr h11 l0 11 6 (aI (x8 - x10)) fun h12 => post none h12))))))) ∧ (¬ (4 : Int32) ≤ l5 → CS (sX11_dirX E) [aI ((2 : Int32) * l5)] h (kI fun x1 h2 => wr h2 l0 11 5 (aI x1) fun h3 => CS (sX11_dirY E) [aI ((2 : Int32) * l5)] h3 (kI fun x4 h5 => wr h5 l0 11 6 (aI x4) fun h6 => post none h6)))
theorem bX11_normal_0 {E : EV} {X : AX} {post : Option AV → AH → Prop} (C : Cb E X cX11_normal RX11 7 rmX11_normal) (D : Cr E X none rmX11_normal "normal" post) {h : AH} {l0 : Option Nat} {l1 : Int32} {l2 : Int32} {l3 : Int32} {l4 : Int32} {l5 : Int32} (w : PX11_normal_0 E post h l0 l1 l2 l3 l4 l5) : Go E X 7 0 0 0 [(0, aP l0), (1, aI l1), (2, aI l2), (3, aI l3), (4, aI l4), (5, aI l5)] [] h := by
  unfold PX11_normal_0 at w
  refine r_iload C dX11_normal_0 5 rfl ?_
  refine r_iconst (v := 4) C dX11_normal_2 rfl ?_
  refine r_icmp_ge C dX11_normal_3 (tgt := 31) rfl (fun hc => ?_) (fun hc => ?_)
  · have w := w.1 hc
    refine r_iload C dX11_normal_31 5 rfl ?_
    refine r_iconst (v := 4) C dX11_normal_33 rfl ?_
    refine r_aload_n C dX11_normal_34 rfl 0 rfl ?_
    refine r_iload_n C dX11_normal_35 rfl 1 rfl ?_
    refine r_iload_n C dX11_normal_36 rfl 2 rfl ?_
    refine r_cvI (rm' := rmX11_vertices) C mX11_vertices vX11_vertices k1072 [aI l1, aI l2] [aI (4 : Int32), aI l5] rfl rfl (Nat.le_of_ble_eq_true rfl) (by decide) ⟨Nat.zero_le _, Nat.zero_le _⟩ 0 0 rfl rfl dX11_normal_37 w (fun x1 h2 w => ?_)
    refine r_iadd C dX11_normal_40 ?_
    refine r_icmp_ge C dX11_normal_41 (tgt := 97) rfl (fun hc => ?_) (fun hc => ?_)
    · have w := w.1 hc
      refine r_iload C dX11_normal_97 5 rfl ?_
      refine r_iconst (v := 4) C dX11_normal_99 rfl ?_
      refine r_isub C dX11_normal_100 ?_
      refine r_aload_n C dX11_normal_101 rfl 0 rfl ?_
      refine r_iload_n C dX11_normal_102 rfl 1 rfl ?_
      refine r_iload_n C dX11_normal_103 rfl 2 rfl ?_
      refine r_cvI (rm' := rmX11_vertices) C mX11_vertices vX11_vertices k1072 [aI l1, aI l2] [aI (l5 - (4 : Int32))] rfl rfl (Nat.le_of_ble_eq_true rfl) (by decide) ⟨Nat.zero_le _, Nat.zero_le _⟩ 0 0 rfl rfl dX11_normal_104 w (fun x3 h4 w => ?_)
      refine r_isub C dX11_normal_107 ?_
      refine r_istore C dX11_normal_108 (by decide) rfl ?_
      have w := w _ rfl
      skip
      refine r_aload_n C dX11_normal_110 rfl 1 rfl ?_
      refine r_aload_n C dX11_normal_111 rfl 1 rfl ?_
      refine r_iload_n C dX11_normal_112 rfl 4 rfl ?_
      refine r_iload C dX11_normal_113 5 rfl ?_
      refine r_iload C dX11_normal_115 0 rfl ?_
      refine r_cvI (rm' := rmX11_yOf) C mX11_yOf vX11_yOf k1080 [aI l3, aI l4, aI ((l5 - (4 : Int32)) - x3)] [aP l0] rfl rfl (Nat.le_of_ble_eq_true rfl) (by decide) ⟨Nat.zero_le _, Nat.zero_le _⟩ 0 0 rfl rfl dX11_normal_117 w (fun x6 h7 w => ?_)
      refine r_aload_n C dX11_normal_120 rfl 1 rfl ?_
      refine r_iload_n C dX11_normal_121 rfl 4 rfl ?_
      refine r_iload C dX11_normal_122 5 rfl ?_
      refine r_iload C dX11_normal_124 0 rfl ?_
      refine r_iconst (v := 1) C dX11_normal_126 rfl ?_
      refine r_iadd C dX11_normal_127 ?_
      refine r_cvI (rm' := rmX11_yOf) C mX11_yOf vX11_yOf k1080 [aI l3, aI l4, aI (((l5 - (4 : Int32)) - x3) + (1 : Int32))] [aI x6, aP l0] rfl rfl (Nat.le_of_ble_eq_true rfl) (by decide) ⟨Nat.zero_le _, Nat.zero_le _⟩ 0 0 rfl rfl dX11_normal_128 w (fun x8 h9 w => ?_)
      refine r_isub C dX11_normal_131 ?_
      refine r_put C fcX11 (f := 5) (by decide) rfl rfl rfl rfl k948 dX11_normal_132 (w.mono fun h10 w => ?_)
      refine r_aload_n C dX11_normal_135 rfl 1 rfl ?_
      refine r_aload_n C dX11_normal_136 rfl 1 rfl ?_
      refine r_iload_n C dX11_normal_137 rfl 4 rfl ?_
      refine r_iload C dX11_normal_138 5 rfl ?_
      refine r_iload C dX11_normal_140 0 rfl ?_
      refine r_iconst (v := 1) C dX11_normal_142 rfl ?_
      refine r_iadd C dX11_normal_143 ?_
      refine r_cvI (rm' := rmX11_xOf) C mX11_xOf vX11_xOf k1076 [aI l3, aI l4, aI (((l5 - (4 : Int32)) - x3) + (1 : Int32))] [aP l0] rfl rfl (Nat.le_of_ble_eq_true rfl) (by decide) ⟨Nat.zero_le _, Nat.zero_le _⟩ 0 0 rfl rfl dX11_normal_144 w (fun x11 h12 w => ?_)
      refine r_aload_n C dX11_normal_147 rfl 1 rfl ?_
      refine r_iload_n C dX11_normal_148 rfl 4 rfl ?_
      refine r_iload C dX11_normal_149 5 rfl ?_
      refine r_iload C dX11_normal_151 0 rfl ?_
      refine r_cvI (rm' := rmX11_xOf) C mX11_xOf vX11_xOf k1076 [aI l3, aI l4, aI ((l5 - (4 : Int32)) - x3)] [aI x11, aP l0] rfl rfl (Nat.le_of_ble_eq_true rfl) (by decide) ⟨Nat.zero_le _, Nat.zero_le _⟩ 0 0 rfl rfl dX11_normal_153 w (fun x13 h14 w => ?_)
      refine r_isub C dX11_normal_156 ?_
      refine r_put C fcX11 (f := 6) (by decide) rfl rfl rfl rfl k949 dX11_normal_157 (w.mono fun h15 w => ?_)
      exact r_vret C D rfl (Nat.zero_le _) (Nat.zero_le _) dX11_normal_160 w
    · have w := w.2 hc
      refine r_aload_n C dX11_normal_44 rfl 0 rfl ?_
      refine r_aload_n C dX11_normal_45 rfl 0 rfl ?_
      refine r_iload_n C dX11_normal_46 rfl 1 rfl ?_
      refine r_iload_n C dX11_normal_47 rfl 2 rfl ?_
      refine r_iload C dX11_normal_48 5 rfl ?_
      refine r_iconst (v := 3) C dX11_normal_50 rfl ?_
      refine r_isub C dX11_normal_51 ?_
      refine r_cvI (rm' := rmX11_yOf) C mX11_yOf vX11_yOf k1080 [aI l1, aI l2, aI (l5 - (3 : Int32))] [aP l0] rfl rfl (Nat.le_of_ble_eq_true rfl) (by decide) ⟨Nat.zero_le _, Nat.zero_le _⟩ 0 0 rfl rfl dX11_normal_52 w (fun x3 h4 w => ?_)
      refine r_aload_n C dX11_normal_55 rfl 0 rfl ?_
      refine r_iload_n C dX11_normal_56 rfl 1 rfl ?_
      refine r_iload_n C dX11_normal_57 rfl 2 rfl ?_
      refine r_iload C dX11_normal_58 5 rfl ?_
      refine r_iconst (v := 4) C dX11_normal_60 rfl ?_
      refine r_isub C dX11_normal_61 ?_
      refine r_cvI (rm' := rmX11_yOf) C mX11_yOf vX11_yOf k1080 [aI l1, aI l2, aI (l5 - (4 : Int32))] [aI x3, aP l0] rfl rfl (Nat.le_of_ble_eq_true rfl) (by decide) ⟨Nat.zero_le _, Nat.zero_le _⟩ 0 0 rfl rfl dX11_normal_62 w (fun x5 h6 w => ?_)
      refine r_isub C dX11_normal_65 ?_
      refine r_put C fcX11 (f := 5) (by decide) rfl rfl rfl rfl k948 dX11_normal_66 (w.mono fun h7 w => ?_)
      refine r_aload_n C dX11_normal_69 rfl 0 rfl ?_
      refine r_aload_n C dX11_normal_70 rfl 0 rfl ?_
      refine r_iload_n C dX11_normal_71 rfl 1 rfl ?_
      refine r_iload_n C dX11_normal_72 rfl 2 rfl ?_
      refine r_iload C dX11_normal_73 5 rfl ?_
      refine r_iconst (v := 4) C dX11_normal_75 rfl ?_
      refine r_isub C dX11_normal_76 ?_
      refine r_cvI (rm' := rmX11_xOf) C mX11_xOf vX11_xOf k1076 [aI l1, aI l2, aI (l5 - (4 : Int32))] [aP l0] rfl rfl (Nat.le_of_ble_eq_true rfl) (by decide) ⟨Nat.zero_le _, Nat.zero_le _⟩ 0 0 rfl rfl dX11_normal_77 w (fun x8 h9 w => ?_)
      refine r_aload_n C dX11_normal_80 rfl 0 rfl ?_
      refine r_iload_n C dX11_normal_81 rfl 1 rfl ?_
      refine r_iload_n C dX11_normal_82 rfl 2 rfl ?_
      refine r_iload C dX11_normal_83 5 rfl ?_
      refine r_iconst (v := 3) C dX11_normal_85 rfl ?_
      refine r_isub C dX11_normal_86 ?_
      refine r_cvI (rm' := rmX11_xOf) C mX11_xOf vX11_xOf k1076 [aI l1, aI l2, aI (l5 - (3 : Int32))] [aI x8, aP l0] rfl rfl (Nat.le_of_ble_eq_true rfl) (by decide) ⟨Nat.zero_le _, Nat.zero_le _⟩ 0 0 rfl rfl dX11_normal_87 w (fun x10 h11 w => ?_)
      refine r_isub C dX11_normal_90 ?_
      refine r_put C fcX11 (f := 6) (by decide) rfl rfl rfl rfl k949 dX11_normal_91 (w.mono fun h12 w => ?_)
      refine r_goto C dX11_normal_94 (tgt := 160) rfl ?_
      exact r_vret C D rfl (Nat.zero_le _) (Nat.zero_le _) dX11_normal_160 w
  · have w := w.2 hc
    refine r_aload_n C dX11_normal_6 rfl 0 rfl ?_
    refine r_iconst (v := 2) C dX11_normal_7 rfl ?_
    refine r_iload C dX11_normal_8 5 rfl ?_
    refine r_imul C dX11_normal_10 ?_
    refine r_csI (rm' := rmX11_dirX) C mX11_dirX vX11_dirX k1175 [aI ((2 : Int32) * l5)] [aP l0] rfl rfl (Nat.le_of_ble_eq_true rfl) (by decide) ⟨Nat.zero_le _, Nat.zero_le _⟩ 0 0 rfl rfl dX11_normal_11 w (fun x1 h2 w => ?_)
    refine r_put C fcX11 (f := 5) (by decide) rfl rfl rfl rfl k948 dX11_normal_14 (w.mono fun h3 w => ?_)
    refine r_aload_n C dX11_normal_17 rfl 0 rfl ?_
    refine r_iconst (v := 2) C dX11_normal_18 rfl ?_
    refine r_iload C dX11_normal_19 5 rfl ?_
    refine r_imul C dX11_normal_21 ?_
    refine r_csI (rm' := rmX11_dirY) C mX11_dirY vX11_dirY k1178 [aI ((2 : Int32) * l5)] [aP l0] rfl rfl (Nat.le_of_ble_eq_true rfl) (by decide) ⟨Nat.zero_le _, Nat.zero_le _⟩ 0 0 rfl rfl dX11_normal_22 w (fun x4 h5 w => ?_)
    refine r_put C fcX11 (f := 6) (by decide) rfl rfl rfl rfl k949 dX11_normal_25 (w.mono fun h6 w => ?_)
    refine r_goto C dX11_normal_28 (tgt := 160) rfl ?_
    exact r_vret C D rfl (Nat.zero_le _) (Nat.zero_le _) dX11_normal_160 w
theorem eX11_normal {E : EV} {post : Option AV → AH → Prop} {h : AH} {l0 : Option Nat} {l1 : Int32} {l2 : Int32} {l3 : Int32} {l4 : Int32} {l5 : Int32} (w : PX11_normal_0 E post h l0 l1 l2 l3 l4 l5) : sX11_normal E [aP l0, aI l1, aI l2, aI l3, aI l4, aI l5] h post := Spec.of RX11 rfl rfl (Nat.le_of_ble_eq_true rfl) fun X C D => bX11_normal_0 C D w
theorem dX11_size_0 : decode cX11_size 0 = .ok (.iload_n 0, 1) := by decide +kernel
theorem dX11_size_1 : decode cX11_size 1 = .ok (.ifCond .ge 8, 3) := by decide +kernel
theorem dX11_size_4 : decode cX11_size 4 = .ok (.iload_n 0, 1) := by decide +kernel
theorem dX11_size_5 : decode cX11_size 5 = .ok (.ineg, 1) := by decide +kernel
theorem dX11_size_6 : decode cX11_size 6 = .ok (.goto 4, 3) := by decide +kernel
theorem dX11_size_9 : decode cX11_size 9 = .ok (.iload_n 0, 1) := by decide +kernel
theorem dX11_size_10 : decode cX11_size 10 = .ok (.ireturn, 1) := by decide +kernel
abbrev rmX11_size : Room := { frames := 0, cells := 0, slots := 0, locals := 0 }
abbrev sX11_size (E : EV) : List AV → AH → (Option AV → AH → Prop) → Prop := Spec E yX11_size cX11_size 1 (some .int) rmX11_size
theorem mX11_size : Mt yX11_size cX11_size 1 (some .int) 1 := ⟨k1165, k12, by decide +kernel⟩
theorem vX11_size : MtS yX11_size := k1164
def PX11_size_0 (E : EV) (post : Option AV → AH → Prop) (h : AH) (l0 : Int32) : Prop :=
  (0 ≤ l0 → post (some (aI l0)) h) ∧ (¬ 0 ≤ l0 → post (some (aI (-l0))) h)
theorem bX11_size_0 {E : EV} {X : AX} {post : Option AV → AH → Prop} (C : Cb E X cX11_size RX11 1 rmX11_size) (D : Cr E X (some .int) rmX11_size "size" post) {h : AH} {l0 : Int32} (w : PX11_size_0 E post h l0) : Go E X 1 0 0 0 [(0, aI l0)] [] h := by
  unfold PX11_size_0 at w
  refine r_iload_n C dX11_size_0 rfl 0 rfl ?_
  refine r_if_ge C dX11_size_1 (tgt := 9) rfl (fun hc => ?_) (fun hc => ?_)
  · have w := w.1 hc
    refine r_iload_n C dX11_size_9 rfl 0 rfl ?_
    exact r_iret C D rfl (Nat.zero_le _) (Nat.zero_le _) dX11_size_10 w
  · have w := w.2 hc
    refine r_iload_n C dX11_size_4 rfl 0 rfl ?_
    refine r_ineg C dX11_size_5 ?_
    refine r_goto C dX11_size_6 (tgt := 10) rfl ?_
    exact r_iret C D rfl (Nat.zero_le _) (Nat.zero_le _) dX11_size_10 w
theorem eX11_size {E : EV} {post : Option AV → AH → Prop} {h : AH} {l0 : Int32} (w : PX11_size_0 E post h l0) : sX11_size E [aI l0] h post := Spec.of RX11 rfl rfl (Nat.le_of_ble_eq_true rfl) fun X C D => bX11_size_0 C D w
theorem dX11_reach_0 : decode cX11_reach 0 = .ok (.aload_n 0, 1) := by decide +kernel
theorem dX11_reach_1 : decode cX11_reach 1 = .ok (.iload_n 1, 1) := by decide +kernel
theorem dX11_reach_2 : decode cX11_reach 2 = .ok (.iload_n 2, 1) := by decide +kernel
theorem dX11_reach_3 : decode cX11_reach 3 = .ok (.aload_n 0, 1) := by decide +kernel
theorem dX11_reach_4 : decode cX11_reach 4 = .ok (.getfield 76, 3) := by decide +kernel
theorem dX11_reach_7 : decode cX11_reach 7 = .ok (.aload_n 0, 1) := by decide +kernel
theorem dX11_reach_8 : decode cX11_reach 8 = .ok (.getfield 82, 3) := by decide +kernel
theorem dX11_reach_11 : decode cX11_reach 11 = .ok (.invokevirtual 69, 3) := by decide +kernel
theorem dX11_reach_14 : decode cX11_reach 14 = .ok (.aload_n 0, 1) := by decide +kernel
theorem dX11_reach_15 : decode cX11_reach 15 = .ok (.iload_n 3, 1) := by decide +kernel
theorem dX11_reach_16 : decode cX11_reach 16 = .ok (.iload 4, 2) := by decide +kernel
theorem dX11_reach_18 : decode cX11_reach 18 = .ok (.aload_n 0, 1) := by decide +kernel
theorem dX11_reach_19 : decode cX11_reach 19 = .ok (.getfield 76, 3) := by decide +kernel
theorem dX11_reach_22 : decode cX11_reach 22 = .ok (.ineg, 1) := by decide +kernel
theorem dX11_reach_23 : decode cX11_reach 23 = .ok (.aload_n 0, 1) := by decide +kernel
theorem dX11_reach_24 : decode cX11_reach 24 = .ok (.getfield 82, 3) := by decide +kernel
theorem dX11_reach_27 : decode cX11_reach 27 = .ok (.ineg, 1) := by decide +kernel
theorem dX11_reach_28 : decode cX11_reach 28 = .ok (.invokevirtual 69, 3) := by decide +kernel
theorem dX11_reach_31 : decode cX11_reach 31 = .ok (.iadd, 1) := by decide +kernel
theorem dX11_reach_32 : decode cX11_reach 32 = .ok (.iload 5, 2) := by decide +kernel
theorem dX11_reach_34 : decode cX11_reach 34 = .ok (.aload_n 0, 1) := by decide +kernel
theorem dX11_reach_35 : decode cX11_reach 35 = .ok (.getfield 76, 3) := by decide +kernel
theorem dX11_reach_38 : decode cX11_reach 38 = .ok (.invokestatic 85, 3) := by decide +kernel
theorem dX11_reach_41 : decode cX11_reach 41 = .ok (.aload_n 0, 1) := by decide +kernel
theorem dX11_reach_42 : decode cX11_reach 42 = .ok (.getfield 82, 3) := by decide +kernel
theorem dX11_reach_45 : decode cX11_reach 45 = .ok (.invokestatic 85, 3) := by decide +kernel
theorem dX11_reach_48 : decode cX11_reach 48 = .ok (.iadd, 1) := by decide +kernel
theorem dX11_reach_49 : decode cX11_reach 49 = .ok (.imul, 1) := by decide +kernel
theorem dX11_reach_50 : decode cX11_reach 50 = .ok (.iadd, 1) := by decide +kernel
theorem dX11_reach_51 : decode cX11_reach 51 = .ok (.ireturn, 1) := by decide +kernel
abbrev rmX11_reach : Room := { frames := 2, cells := 0, slots := 0, locals := 80 }
abbrev sX11_reach (E : EV) : List AV → AH → (Option AV → AH → Prop) → Prop := Spec E yX11_reach cX11_reach 6 (some .int) rmX11_reach
theorem mX11_reach : Mt yX11_reach cX11_reach 6 (some .int) 5 := ⟨k1240, k12, by decide +kernel⟩
theorem vX11_reach : MtV yX11_reach 11 := ⟨k1239, kp60, by decide, (RX11, TX11, 26), rfl, rfl⟩
def PX11_reach_0 (E : EV) (post : Option AV → AH → Prop) (h : AH) (l0 : Option Nat) (l1 : Int32) (l2 : Int32) (l3 : Int32) (l4 : Int32) (l5 : Int32) : Prop :=
  rdI h l0 11 5 fun x1 => rdI h l0 11 6 fun x2 => CV (sX11_high E) l0 11 [aI l1, aI l2, aI x1, aI x2] h (kI fun x3 h4 => rdI h4 l0 11 5 fun x5 => rdI h4 l0 11 6 fun x6 => CV (sX11_high E) l0 11 [aI l3, aI l4, aI (-x5), aI (-x6)] h4 (kI fun x7 h8 => rdI h8 l0 11 5 fun x9 => CS (sX11_size E) [aI x9] h8 (kI fun x10 h11 => rdI h11 l0 11 6 fun x12 => CS (sX11_size E) [aI x12] h11 (kI fun x13 h14 => post (some (aI ((x3 + x7) + (l5 * (x10 + x13))))) h14))))
theorem bX11_reach_0 {E : EV} {X : AX} {post : Option AV → AH → Prop} (C : Cb E X cX11_reach RX11 6 rmX11_reach) (D : Cr E X (some .int) rmX11_reach "reach" post) {h : AH} {l0 : Option Nat} {l1 : Int32} {l2 : Int32} {l3 : Int32} {l4 : Int32} {l5 : Int32} (w : PX11_reach_0 E post h l0 l1 l2 l3 l4 l5) : Go E X 6 0 0 0 [(0, aP l0), (1, aI l1), (2, aI l2), (3, aI l3), (4, aI l4), (5, aI l5)] [] h := by
  unfold PX11_reach_0 at w
  refine r_aload_n C dX11_reach_0 rfl 0 rfl ?_
  refine r_iload_n C dX11_reach_1 rfl 1 rfl ?_
  refine r_iload_n C dX11_reach_2 rfl 2 rfl ?_
  refine r_aload_n C dX11_reach_3 rfl 0 rfl ?_
  refine r_getI C fcX11 (f := 5) (by decide) rfl k948 dX11_reach_4 (w.mono fun x1 w => ?_)
  refine r_aload_n C dX11_reach_7 rfl 0 rfl ?_
  refine r_getI C fcX11 (f := 6) (by decide) rfl k949 dX11_reach_8 (w.mono fun x2 w => ?_)
  refine r_cvI (rm' := rmX11_high) C mX11_high vX11_high k1186 [aI l1, aI l2, aI x1, aI x2] [] rfl rfl (Nat.le_of_ble_eq_true rfl) (by decide) ⟨Nat.zero_le _, Nat.zero_le _⟩ 0 0 rfl rfl dX11_reach_11 w (fun x3 h4 w => ?_)
  refine r_aload_n C dX11_reach_14 rfl 0 rfl ?_
  refine r_iload_n C dX11_reach_15 rfl 3 rfl ?_
  refine r_iload C dX11_reach_16 4 rfl ?_
  refine r_aload_n C dX11_reach_18 rfl 0 rfl ?_
  refine r_getI C fcX11 (f := 5) (by decide) rfl k948 dX11_reach_19 (w.mono fun x5 w => ?_)
  refine r_ineg C dX11_reach_22 ?_
  refine r_aload_n C dX11_reach_23 rfl 0 rfl ?_
  refine r_getI C fcX11 (f := 6) (by decide) rfl k949 dX11_reach_24 (w.mono fun x6 w => ?_)
  refine r_ineg C dX11_reach_27 ?_
  refine r_cvI (rm' := rmX11_high) C mX11_high vX11_high k1186 [aI l3, aI l4, aI (-x5), aI (-x6)] [aI x3] rfl rfl (Nat.le_of_ble_eq_true rfl) (by decide) ⟨Nat.zero_le _, Nat.zero_le _⟩ 0 0 rfl rfl dX11_reach_28 w (fun x7 h8 w => ?_)
  refine r_iadd C dX11_reach_31 ?_
  refine r_iload C dX11_reach_32 5 rfl ?_
  refine r_aload_n C dX11_reach_34 rfl 0 rfl ?_
  refine r_getI C fcX11 (f := 5) (by decide) rfl k948 dX11_reach_35 (w.mono fun x9 w => ?_)
  refine r_csI (rm' := rmX11_size) C mX11_size vX11_size k1163 [aI x9] [aI l5, aI (x3 + x7)] rfl rfl (Nat.le_of_ble_eq_true rfl) (by decide) ⟨Nat.zero_le _, Nat.zero_le _⟩ 0 0 rfl rfl dX11_reach_38 w (fun x10 h11 w => ?_)
  refine r_aload_n C dX11_reach_41 rfl 0 rfl ?_
  refine r_getI C fcX11 (f := 6) (by decide) rfl k949 dX11_reach_42 (w.mono fun x12 w => ?_)
  refine r_csI (rm' := rmX11_size) C mX11_size vX11_size k1163 [aI x12] [aI x10, aI l5, aI (x3 + x7)] rfl rfl (Nat.le_of_ble_eq_true rfl) (by decide) ⟨Nat.zero_le _, Nat.zero_le _⟩ 0 0 rfl rfl dX11_reach_45 w (fun x13 h14 w => ?_)
  refine r_iadd C dX11_reach_48 ?_
  refine r_imul C dX11_reach_49 ?_
  refine r_iadd C dX11_reach_50 ?_
  exact r_iret C D rfl (Nat.zero_le _) (Nat.zero_le _) dX11_reach_51 w
theorem eX11_reach {E : EV} {post : Option AV → AH → Prop} {h : AH} {l0 : Option Nat} {l1 : Int32} {l2 : Int32} {l3 : Int32} {l4 : Int32} {l5 : Int32} (w : PX11_reach_0 E post h l0 l1 l2 l3 l4 l5) : sX11_reach E [aP l0, aI l1, aI l2, aI l3, aI l4, aI l5] h post := Spec.of RX11 rfl rfl (Nat.le_of_ble_eq_true rfl) fun X C D => bX11_reach_0 C D w
theorem dX11_isInside_0 : decode cX11_isInside 0 = .ok (.iconst 0, 1) := by decide +kernel
theorem dX11_isInside_1 : decode cX11_isInside 1 = .ok (.istore 9, 2) := by decide +kernel
theorem dX11_isInside_3 : decode cX11_isInside 3 = .ok (.iload 9, 2) := by decide +kernel
theorem dX11_isInside_5 : decode cX11_isInside 5 = .ok (.aload_n 0, 1) := by decide +kernel
theorem dX11_isInside_6 : decode cX11_isInside 6 = .ok (.iload_n 1, 1) := by decide +kernel
theorem dX11_isInside_7 : decode cX11_isInside 7 = .ok (.iload_n 2, 1) := by decide +kernel
theorem dX11_isInside_8 : decode cX11_isInside 8 = .ok (.iload_n 3, 1) := by decide +kernel
theorem dX11_isInside_9 : decode cX11_isInside 9 = .ok (.iload 4, 2) := by decide +kernel
theorem dX11_isInside_11 : decode cX11_isInside 11 = .ok (.invokevirtual 88, 3) := by decide +kernel
theorem dX11_isInside_14 : decode cX11_isInside 14 = .ok (.if_icmp .ge 54, 3) := by decide +kernel
theorem dX11_isInside_17 : decode cX11_isInside 17 = .ok (.aload_n 0, 1) := by decide +kernel
theorem dX11_isInside_18 : decode cX11_isInside 18 = .ok (.iload_n 1, 1) := by decide +kernel
theorem dX11_isInside_19 : decode cX11_isInside 19 = .ok (.iload_n 2, 1) := by decide +kernel
theorem dX11_isInside_20 : decode cX11_isInside 20 = .ok (.iload_n 3, 1) := by decide +kernel
theorem dX11_isInside_21 : decode cX11_isInside 21 = .ok (.iload 4, 2) := by decide +kernel
theorem dX11_isInside_23 : decode cX11_isInside 23 = .ok (.iload 9, 2) := by decide +kernel
theorem dX11_isInside_25 : decode cX11_isInside 25 = .ok (.invokevirtual 91, 3) := by decide +kernel
theorem dX11_isInside_28 : decode cX11_isInside 28 = .ok (.aload_n 0, 1) := by decide +kernel
theorem dX11_isInside_29 : decode cX11_isInside 29 = .ok (.getfield 76, 3) := by decide +kernel
theorem dX11_isInside_32 : decode cX11_isInside 32 = .ok (.iload 5, 2) := by decide +kernel
theorem dX11_isInside_34 : decode cX11_isInside 34 = .ok (.imul, 1) := by decide +kernel
theorem dX11_isInside_35 : decode cX11_isInside 35 = .ok (.aload_n 0, 1) := by decide +kernel
theorem dX11_isInside_36 : decode cX11_isInside 36 = .ok (.getfield 82, 3) := by decide +kernel
theorem dX11_isInside_39 : decode cX11_isInside 39 = .ok (.iload 6, 2) := by decide +kernel
theorem dX11_isInside_41 : decode cX11_isInside 41 = .ok (.imul, 1) := by decide +kernel
theorem dX11_isInside_42 : decode cX11_isInside 42 = .ok (.iadd, 1) := by decide +kernel
theorem dX11_isInside_43 : decode cX11_isInside 43 = .ok (.aload_n 0, 1) := by decide +kernel
theorem dX11_isInside_44 : decode cX11_isInside 44 = .ok (.iload_n 1, 1) := by decide +kernel
theorem dX11_isInside_45 : decode cX11_isInside 45 = .ok (.iload_n 2, 1) := by decide +kernel
theorem dX11_isInside_46 : decode cX11_isInside 46 = .ok (.iload_n 3, 1) := by decide +kernel
theorem dX11_isInside_47 : decode cX11_isInside 47 = .ok (.iload 4, 2) := by decide +kernel
theorem dX11_isInside_49 : decode cX11_isInside 49 = .ok (.iload 7, 2) := by decide +kernel
theorem dX11_isInside_51 : decode cX11_isInside 51 = .ok (.invokevirtual 95, 3) := by decide +kernel
theorem dX11_isInside_54 : decode cX11_isInside 54 = .ok (.iload 8, 2) := by decide +kernel
theorem dX11_isInside_56 : decode cX11_isInside 56 = .ok (.iadd, 1) := by decide +kernel
theorem dX11_isInside_57 : decode cX11_isInside 57 = .ok (.if_icmp .lt 5, 3) := by decide +kernel
theorem dX11_isInside_60 : decode cX11_isInside 60 = .ok (.iconst 0, 1) := by decide +kernel
theorem dX11_isInside_61 : decode cX11_isInside 61 = .ok (.ireturn, 1) := by decide +kernel
theorem dX11_isInside_62 : decode cX11_isInside 62 = .ok (.iinc 9 1, 3) := by decide +kernel
theorem dX11_isInside_65 : decode cX11_isInside 65 = .ok (.goto (-62), 3) := by decide +kernel
theorem dX11_isInside_68 : decode cX11_isInside 68 = .ok (.iconst 1, 1) := by decide +kernel
theorem dX11_isInside_69 : decode cX11_isInside 69 = .ok (.ireturn, 1) := by decide +kernel
abbrev rmX11_isInside : Room := { frames := 3, cells := 0, slots := 0, locals := 120 }
abbrev sX11_isInside (E : EV) : List AV → AH → (Option AV → AH → Prop) → Prop := Spec E yX11_isInside cX11_isInside 10 (some .boolean) rmX11_isInside
theorem mX11_isInside : Mt yX11_isInside cX11_isInside 10 (some .boolean) 8 := ⟨k1228, k12, by decide +kernel⟩
theorem vX11_isInside : MtV yX11_isInside 11 := ⟨k1227, kp57, by decide, (RX11, TX11, 26), rfl, rfl⟩
def PX11_isInside_3 (E : EV) (post : Option AV → AH → Prop) (J3 : AH → Option Nat → Int32 → Int32 → Int32 → Int32 → Int32 → Int32 → Int32 → Int32 → Int32 → Prop) (h : AH) (l0 : Option Nat) (l1 : Int32) (l2 : Int32) (l3 : Int32) (l4 : Int32) (l5 : Int32) (l6 : Int32) (l7 : Int32) (l8 : Int32) (l9 : Int32) : Prop :=
  CV (sX11_normals E) l0 11 [aI l1, aI l2, aI l3, aI l4] h (kI fun x1 h2 => (x1 ≤ l9 → post (some (aI (1 : Int32))) h2) ∧ (¬ x1 ≤ l9 → CV (sX11_normal E) l0 11 [aI l1, aI l2, aI l3, aI l4, aI l9] h2 (kV fun h4 => rdI h4 l0 11 5 fun x5 => rdI h4 l0 11 6 fun x6 => CV (sX11_reach E) l0 11 [aI l1, aI l2, aI l3, aI l4, aI l7] h4 (kI fun x7 h8 => (((x5 * l5) + (x6 * l6)) < (x7 + l8) → J3 h8 l0 l1 l2 l3 l4 l5 l6 l7 l8 (l9 + (1 : Int32))) ∧ (¬ ((x5 * l5) + (x6 * l6)) < (x7 + l8) → post (some (aI (0 : Int32))) h8)))))
theorem bX11_isInside_3 {E : EV} {X : AX} {post : Option AV → AH → Prop} (C : Cb E X cX11_isInside RX11 10 rmX11_isInside) (D : Cr E X (some .boolean) rmX11_isInside "isInside" post) {J3 : AH → Option Nat → Int32 → Int32 → Int32 → Int32 → Int32 → Int32 → Int32 → Int32 → Int32 → Prop} (g3 : ∀ (h : AH) (l0 : Option Nat) (l1 : Int32) (l2 : Int32) (l3 : Int32) (l4 : Int32) (l5 : Int32) (l6 : Int32) (l7 : Int32) (l8 : Int32) (l9 : Int32), J3 h l0 l1 l2 l3 l4 l5 l6 l7 l8 l9 → Go E X 10 0 0 3 [(0, aP l0), (1, aI l1), (2, aI l2), (3, aI l3), (4, aI l4), (5, aI l5), (6, aI l6), (7, aI l7), (8, aI l8), (9, aI l9)] [] h) {h : AH} {l0 : Option Nat} {l1 : Int32} {l2 : Int32} {l3 : Int32} {l4 : Int32} {l5 : Int32} {l6 : Int32} {l7 : Int32} {l8 : Int32} {l9 : Int32} (w : PX11_isInside_3 E post J3 h l0 l1 l2 l3 l4 l5 l6 l7 l8 l9) : Go E X 10 0 0 3 [(0, aP l0), (1, aI l1), (2, aI l2), (3, aI l3), (4, aI l4), (5, aI l5), (6, aI l6), (7, aI l7), (8, aI l8), (9, aI l9)] [] h := by
  unfold PX11_isInside_3 at w
  refine r_iload C dX11_isInside_3 9 rfl ?_
  refine r_aload_n C dX11_isInside_5 rfl 0 rfl ?_
  refine r_iload_n C dX11_isInside_6 rfl 1 rfl ?_
  refine r_iload_n C dX11_isInside_7 rfl 2 rfl ?_
  refine r_iload_n C dX11_isInside_8 rfl 3 rfl ?_
  refine r_iload C dX11_isInside_9 4 rfl ?_
  refine r_cvI (rm' := rmX11_normals) C mX11_normals vX11_normals k1229 [aI l1, aI l2, aI l3, aI l4] [aI l9] rfl rfl (Nat.le_of_ble_eq_true rfl) (by decide) ⟨Nat.zero_le _, Nat.zero_le _⟩ 0 0 rfl rfl dX11_isInside_11 w (fun x1 h2 w => ?_)
  refine r_icmp_ge C dX11_isInside_14 (tgt := 68) rfl (fun hc => ?_) (fun hc => ?_)
  · have w := w.1 hc
    refine r_iconst (v := 1) C dX11_isInside_68 rfl ?_
    exact r_zret C D rfl (Or.inr rfl) (Nat.zero_le _) (Nat.zero_le _) dX11_isInside_69 w
  · have w := w.2 hc
    refine r_aload_n C dX11_isInside_17 rfl 0 rfl ?_
    refine r_iload_n C dX11_isInside_18 rfl 1 rfl ?_
    refine r_iload_n C dX11_isInside_19 rfl 2 rfl ?_
    refine r_iload_n C dX11_isInside_20 rfl 3 rfl ?_
    refine r_iload C dX11_isInside_21 4 rfl ?_
    refine r_iload C dX11_isInside_23 9 rfl ?_
    refine r_cvV (rm' := rmX11_normal) C mX11_normal vX11_normal k1233 [aI l1, aI l2, aI l3, aI l4, aI l9] [] rfl rfl (Nat.le_of_ble_eq_true rfl) (by decide) ⟨Nat.zero_le _, Nat.zero_le _⟩ 0 0 rfl rfl dX11_isInside_25 w (fun h4 w => ?_)
    refine r_aload_n C dX11_isInside_28 rfl 0 rfl ?_
    refine r_getI C fcX11 (f := 5) (by decide) rfl k948 dX11_isInside_29 (w.mono fun x5 w => ?_)
    refine r_iload C dX11_isInside_32 5 rfl ?_
    refine r_imul C dX11_isInside_34 ?_
    refine r_aload_n C dX11_isInside_35 rfl 0 rfl ?_
    refine r_getI C fcX11 (f := 6) (by decide) rfl k949 dX11_isInside_36 (w.mono fun x6 w => ?_)
    refine r_iload C dX11_isInside_39 6 rfl ?_
    refine r_imul C dX11_isInside_41 ?_
    refine r_iadd C dX11_isInside_42 ?_
    refine r_aload_n C dX11_isInside_43 rfl 0 rfl ?_
    refine r_iload_n C dX11_isInside_44 rfl 1 rfl ?_
    refine r_iload_n C dX11_isInside_45 rfl 2 rfl ?_
    refine r_iload_n C dX11_isInside_46 rfl 3 rfl ?_
    refine r_iload C dX11_isInside_47 4 rfl ?_
    refine r_iload C dX11_isInside_49 7 rfl ?_
    refine r_cvI (rm' := rmX11_reach) C mX11_reach vX11_reach k1237 [aI l1, aI l2, aI l3, aI l4, aI l7] [aI ((x5 * l5) + (x6 * l6))] rfl rfl (Nat.le_of_ble_eq_true rfl) (by decide) ⟨Nat.zero_le _, Nat.zero_le _⟩ 0 0 rfl rfl dX11_isInside_51 w (fun x7 h8 w => ?_)
    refine r_iload C dX11_isInside_54 8 rfl ?_
    refine r_iadd C dX11_isInside_56 ?_
    refine r_icmp_lt C dX11_isInside_57 (tgt := 62) rfl (fun hc => ?_) (fun hc => ?_)
    · have w := w.1 hc
      refine r_iinc C dX11_isInside_62 9 rfl (v := 1) rfl (by decide) rfl ?_
      refine r_goto C dX11_isInside_65 (tgt := 3) rfl ?_
      exact r_sub [1, 2, 3, 4, 5, 6, 7, 8, 9, 0] rfl (g3 h8 l0 l1 l2 l3 l4 l5 l6 l7 l8 (l9 + (1 : Int32)) w)
    · have w := w.2 hc
      refine r_iconst (v := 0) C dX11_isInside_60 rfl ?_
      exact r_zret C D rfl (Or.inl rfl) (Nat.zero_le _) (Nat.zero_le _) dX11_isInside_61 w
theorem lpX11_isInside_3 {E : EV} {X : AX} {post : Option AV → AH → Prop} (C : Cb E X cX11_isInside RX11 10 rmX11_isInside) (D : Cr E X (some .boolean) rmX11_isInside "isInside" post) (I : Nat → AH → Option Nat → Int32 → Int32 → Int32 → Int32 → Int32 → Int32 → Int32 → Int32 → Int32 → Prop) (step : ∀ (z : Nat) (h : AH) (l0 : Option Nat) (l1 : Int32) (l2 : Int32) (l3 : Int32) (l4 : Int32) (l5 : Int32) (l6 : Int32) (l7 : Int32) (l8 : Int32) (l9 : Int32), I z h l0 l1 l2 l3 l4 l5 l6 l7 l8 l9 → PX11_isInside_3 E post (fun h l0 l1 l2 l3 l4 l5 l6 l7 l8 l9 => ∃ z', z' < z ∧ I z' h l0 l1 l2 l3 l4 l5 l6 l7 l8 l9) h l0 l1 l2 l3 l4 l5 l6 l7 l8 l9) : ∀ (z : Nat) (h : AH) (l0 : Option Nat) (l1 : Int32) (l2 : Int32) (l3 : Int32) (l4 : Int32) (l5 : Int32) (l6 : Int32) (l7 : Int32) (l8 : Int32) (l9 : Int32), I z h l0 l1 l2 l3 l4 l5 l6 l7 l8 l9 → Go E X 10 0 0 3 [(0, aP l0), (1, aI l1), (2, aI l2), (3, aI l3), (4, aI l4), (5, aI l5), (6, aI l6), (7, aI l7), (8, aI l8), (9, aI l9)] [] h := by
  intro z
  induction z using Nat.strongRecOn with
  | _ z ih =>
    intro h l0 l1 l2 l3 l4 l5 l6 l7 l8 l9 hI
    exact bX11_isInside_3 C D (fun h l0 l1 l2 l3 l4 l5 l6 l7 l8 l9 hJ => by obtain ⟨z', hz, hi⟩ := hJ; exact ih z' hz h l0 l1 l2 l3 l4 l5 l6 l7 l8 l9 hi) (step z h l0 l1 l2 l3 l4 l5 l6 l7 l8 l9 hI)
def PX11_isInside_0 (E : EV) (post : Option AV → AH → Prop) (J3 : AH → Option Nat → Int32 → Int32 → Int32 → Int32 → Int32 → Int32 → Int32 → Int32 → Int32 → Prop) (h : AH) (l0 : Option Nat) (l1 : Int32) (l2 : Int32) (l3 : Int32) (l4 : Int32) (l5 : Int32) (l6 : Int32) (l7 : Int32) (l8 : Int32) : Prop :=
  J3 h l0 l1 l2 l3 l4 l5 l6 l7 l8 (0 : Int32)
theorem bX11_isInside_0 {E : EV} {X : AX} {post : Option AV → AH → Prop} (C : Cb E X cX11_isInside RX11 10 rmX11_isInside) (D : Cr E X (some .boolean) rmX11_isInside "isInside" post) {J3 : AH → Option Nat → Int32 → Int32 → Int32 → Int32 → Int32 → Int32 → Int32 → Int32 → Int32 → Prop} (g3 : ∀ (h : AH) (l0 : Option Nat) (l1 : Int32) (l2 : Int32) (l3 : Int32) (l4 : Int32) (l5 : Int32) (l6 : Int32) (l7 : Int32) (l8 : Int32) (l9 : Int32), J3 h l0 l1 l2 l3 l4 l5 l6 l7 l8 l9 → Go E X 10 0 0 3 [(0, aP l0), (1, aI l1), (2, aI l2), (3, aI l3), (4, aI l4), (5, aI l5), (6, aI l6), (7, aI l7), (8, aI l8), (9, aI l9)] [] h) {h : AH} {l0 : Option Nat} {l1 : Int32} {l2 : Int32} {l3 : Int32} {l4 : Int32} {l5 : Int32} {l6 : Int32} {l7 : Int32} {l8 : Int32} (w : PX11_isInside_0 E post J3 h l0 l1 l2 l3 l4 l5 l6 l7 l8) : Go E X 10 0 0 0 [(0, aP l0), (1, aI l1), (2, aI l2), (3, aI l3), (4, aI l4), (5, aI l5), (6, aI l6), (7, aI l7), (8, aI l8)] [] h := by
  unfold PX11_isInside_0 at w
  refine r_iconst (v := 0) C dX11_isInside_0 rfl ?_
  refine r_istore C dX11_isInside_1 (by decide) rfl ?_
  exact r_sub [1, 2, 3, 4, 5, 6, 7, 8, 9, 0] rfl (g3 h l0 l1 l2 l3 l4 l5 l6 l7 l8 (0 : Int32) w)
theorem eX11_isInside {E : EV} {post : Option AV → AH → Prop} {h : AH} {l0 : Option Nat} {l1 : Int32} {l2 : Int32} {l3 : Int32} {l4 : Int32} {l5 : Int32} {l6 : Int32} {l7 : Int32} {l8 : Int32} {J3 : AH → Option Nat → Int32 → Int32 → Int32 → Int32 → Int32 → Int32 → Int32 → Int32 → Int32 → Prop} (g3 : ∀ X : AX, Cb E X cX11_isInside RX11 10 rmX11_isInside → Cr E X (some .boolean) rmX11_isInside "isInside" post → ∀ (h : AH) (l0 : Option Nat) (l1 : Int32) (l2 : Int32) (l3 : Int32) (l4 : Int32) (l5 : Int32) (l6 : Int32) (l7 : Int32) (l8 : Int32) (l9 : Int32), J3 h l0 l1 l2 l3 l4 l5 l6 l7 l8 l9 → Go E X 10 0 0 3 [(0, aP l0), (1, aI l1), (2, aI l2), (3, aI l3), (4, aI l4), (5, aI l5), (6, aI l6), (7, aI l7), (8, aI l8), (9, aI l9)] [] h) (w : PX11_isInside_0 E post J3 h l0 l1 l2 l3 l4 l5 l6 l7 l8) : sX11_isInside E [aP l0, aI l1, aI l2, aI l3, aI l4, aI l5, aI l6, aI l7, aI l8] h post := Spec.of RX11 rfl rfl (Nat.le_of_ble_eq_true rfl) fun X C D => bX11_isInside_0 C D (g3 X C D) w
theorem dX11_isAny_0 : decode cX11_isAny 0 = .ok (.iconst 0, 1) := by decide +kernel
theorem dX11_isAny_1 : decode cX11_isAny 1 = .ok (.istore 7, 2) := by decide +kernel
theorem dX11_isAny_3 : decode cX11_isAny 3 = .ok (.iconst 0, 1) := by decide +kernel
theorem dX11_isAny_4 : decode cX11_isAny 4 = .ok (.istore 8, 2) := by decide +kernel
theorem dX11_isAny_6 : decode cX11_isAny 6 = .ok (.iload 8, 2) := by decide +kernel
theorem dX11_isAny_8 : decode cX11_isAny 8 = .ok (.aload_n 0, 1) := by decide +kernel
theorem dX11_isAny_9 : decode cX11_isAny 9 = .ok (.iload_n 1, 1) := by decide +kernel
theorem dX11_isAny_10 : decode cX11_isAny 10 = .ok (.invokevirtual 66, 3) := by decide +kernel
theorem dX11_isAny_13 : decode cX11_isAny 13 = .ok (.if_icmp .ge 57, 3) := by decide +kernel
theorem dX11_isAny_16 : decode cX11_isAny 16 = .ok (.iload 7, 2) := by decide +kernel
theorem dX11_isAny_18 : decode cX11_isAny 18 = .ok (.ifCond .ne 52, 3) := by decide +kernel
theorem dX11_isAny_21 : decode cX11_isAny 21 = .ok (.iconst 0, 1) := by decide +kernel
theorem dX11_isAny_22 : decode cX11_isAny 22 = .ok (.istore 9, 2) := by decide +kernel
theorem dX11_isAny_24 : decode cX11_isAny 24 = .ok (.iload 9, 2) := by decide +kernel
theorem dX11_isAny_26 : decode cX11_isAny 26 = .ok (.aload_n 0, 1) := by decide +kernel
theorem dX11_isAny_27 : decode cX11_isAny 27 = .ok (.iload_n 2, 1) := by decide +kernel
theorem dX11_isAny_28 : decode cX11_isAny 28 = .ok (.invokevirtual 66, 3) := by decide +kernel
theorem dX11_isAny_31 : decode cX11_isAny 31 = .ok (.if_icmp .ge 33, 3) := by decide +kernel
theorem dX11_isAny_34 : decode cX11_isAny 34 = .ok (.iload 7, 2) := by decide +kernel
theorem dX11_isAny_36 : decode cX11_isAny 36 = .ok (.ifCond .ne 28, 3) := by decide +kernel
theorem dX11_isAny_39 : decode cX11_isAny 39 = .ok (.aload_n 0, 1) := by decide +kernel
theorem dX11_isAny_40 : decode cX11_isAny 40 = .ok (.iload_n 1, 1) := by decide +kernel
theorem dX11_isAny_41 : decode cX11_isAny 41 = .ok (.iload 8, 2) := by decide +kernel
theorem dX11_isAny_43 : decode cX11_isAny 43 = .ok (.iload_n 2, 1) := by decide +kernel
theorem dX11_isAny_44 : decode cX11_isAny 44 = .ok (.iload 9, 2) := by decide +kernel
theorem dX11_isAny_46 : decode cX11_isAny 46 = .ok (.iload_n 3, 1) := by decide +kernel
theorem dX11_isAny_47 : decode cX11_isAny 47 = .ok (.iload 4, 2) := by decide +kernel
theorem dX11_isAny_49 : decode cX11_isAny 49 = .ok (.iload 5, 2) := by decide +kernel
theorem dX11_isAny_51 : decode cX11_isAny 51 = .ok (.iload 6, 2) := by decide +kernel
theorem dX11_isAny_53 : decode cX11_isAny 53 = .ok (.invokevirtual 99, 3) := by decide +kernel
theorem dX11_isAny_56 : decode cX11_isAny 56 = .ok (.istore 7, 2) := by decide +kernel
theorem dX11_isAny_58 : decode cX11_isAny 58 = .ok (.iinc 9 1, 3) := by decide +kernel
theorem dX11_isAny_61 : decode cX11_isAny 61 = .ok (.goto (-37), 3) := by decide +kernel
theorem dX11_isAny_64 : decode cX11_isAny 64 = .ok (.iinc 8 1, 3) := by decide +kernel
theorem dX11_isAny_67 : decode cX11_isAny 67 = .ok (.goto (-61), 3) := by decide +kernel
theorem dX11_isAny_70 : decode cX11_isAny 70 = .ok (.iload 7, 2) := by decide +kernel
theorem dX11_isAny_72 : decode cX11_isAny 72 = .ok (.ireturn, 1) := by decide +kernel
abbrev rmX11_isAny : Room := { frames := 4, cells := 0, slots := 0, locals := 160 }
abbrev sX11_isAny (E : EV) : List AV → AH → (Option AV → AH → Prop) → Prop := Spec E yX11_isAny cX11_isAny 10 (some .boolean) rmX11_isAny
theorem mX11_isAny : Mt yX11_isAny cX11_isAny 10 (some .boolean) 6 := ⟨k1224, k12, by decide +kernel⟩
theorem vX11_isAny : MtV yX11_isAny 11 := ⟨k1223, kp56, by decide, (RX11, TX11, 26), rfl, rfl⟩
def PX11_isAny_24 (E : EV) (post : Option AV → AH → Prop) (J6 : AH → Option Nat → Int32 → Int32 → Int32 → Int32 → Int32 → Int32 → Int32 → Int32 → Prop) (J24 : AH → Option Nat → Int32 → Int32 → Int32 → Int32 → Int32 → Int32 → Int32 → Int32 → Int32 → Prop) (h : AH) (l0 : Option Nat) (l1 : Int32) (l2 : Int32) (l3 : Int32) (l4 : Int32) (l5 : Int32) (l6 : Int32) (l7 : Int32) (l8 : Int32) (l9 : Int32) : Prop :=
  CV (sX11_pieces E) l0 11 [aI l2] h (kI fun x1 h2 => (x1 ≤ l9 → J6 h2 l0 l1 l2 l3 l4 l5 l6 l7 (l8 + (1 : Int32))) ∧ (¬ x1 ≤ l9 → (¬ l7 = 0 → J6 h2 l0 l1 l2 l3 l4 l5 l6 l7 (l8 + (1 : Int32))) ∧ (l7 = 0 → CV (sX11_isInside E) l0 11 [aI l1, aI l8, aI l2, aI l9, aI l3, aI l4, aI l5, aI l6] h2 (kI fun x3 h4 => J24 h4 l0 l1 l2 l3 l4 l5 l6 x3 l8 (l9 + (1 : Int32))))))
theorem bX11_isAny_24 {E : EV} {X : AX} {post : Option AV → AH → Prop} (C : Cb E X cX11_isAny RX11 10 rmX11_isAny) (D : Cr E X (some .boolean) rmX11_isAny "isAny" post) {J6 : AH → Option Nat → Int32 → Int32 → Int32 → Int32 → Int32 → Int32 → Int32 → Int32 → Prop} (g6 : ∀ (h : AH) (l0 : Option Nat) (l1 : Int32) (l2 : Int32) (l3 : Int32) (l4 : Int32) (l5 : Int32) (l6 : Int32) (l7 : Int32) (l8 : Int32), J6 h l0 l1 l2 l3 l4 l5 l6 l7 l8 → Go E X 10 0 0 6 [(0, aP l0), (1, aI l1), (2, aI l2), (3, aI l3), (4, aI l4), (5, aI l5), (6, aI l6), (7, aI l7), (8, aI l8)] [] h) {J24 : AH → Option Nat → Int32 → Int32 → Int32 → Int32 → Int32 → Int32 → Int32 → Int32 → Int32 → Prop} (g24 : ∀ (h : AH) (l0 : Option Nat) (l1 : Int32) (l2 : Int32) (l3 : Int32) (l4 : Int32) (l5 : Int32) (l6 : Int32) (l7 : Int32) (l8 : Int32) (l9 : Int32), J24 h l0 l1 l2 l3 l4 l5 l6 l7 l8 l9 → Go E X 10 0 0 24 [(0, aP l0), (1, aI l1), (2, aI l2), (3, aI l3), (4, aI l4), (5, aI l5), (6, aI l6), (7, aI l7), (8, aI l8), (9, aI l9)] [] h) {h : AH} {l0 : Option Nat} {l1 : Int32} {l2 : Int32} {l3 : Int32} {l4 : Int32} {l5 : Int32} {l6 : Int32} {l7 : Int32} {l8 : Int32} {l9 : Int32} (w : PX11_isAny_24 E post J6 J24 h l0 l1 l2 l3 l4 l5 l6 l7 l8 l9) : Go E X 10 0 0 24 [(0, aP l0), (1, aI l1), (2, aI l2), (3, aI l3), (4, aI l4), (5, aI l5), (6, aI l6), (7, aI l7), (8, aI l8), (9, aI l9)] [] h := by
  unfold PX11_isAny_24 at w
  refine r_iload C dX11_isAny_24 9 rfl ?_
  refine r_aload_n C dX11_isAny_26 rfl 0 rfl ?_
  refine r_iload_n C dX11_isAny_27 rfl 2 rfl ?_
  refine r_cvI (rm' := rmX11_pieces) C mX11_pieces vX11_pieces k1115 [aI l2] [aI l9] rfl rfl (Nat.le_of_ble_eq_true rfl) (by decide) ⟨Nat.zero_le _, Nat.zero_le _⟩ 0 0 rfl rfl dX11_isAny_28 w (fun x1 h2 w => ?_)
  refine r_icmp_ge C dX11_isAny_31 (tgt := 64) rfl (fun hc => ?_) (fun hc => ?_)
  · have w := w.1 hc
    refine r_iinc C dX11_isAny_64 8 rfl (v := 1) rfl (by decide) rfl ?_
    refine r_goto C dX11_isAny_67 (tgt := 6) rfl ?_
    exact r_sub [1, 2, 3, 4, 5, 6, 7, 8, 0] rfl (g6 h2 l0 l1 l2 l3 l4 l5 l6 l7 (l8 + (1 : Int32)) w)
  · have w := w.2 hc
    refine r_iload C dX11_isAny_34 7 rfl ?_
    refine r_if_ne C dX11_isAny_36 (tgt := 64) rfl (fun hc => ?_) (fun hc => ?_)
    · have w := w.1 hc
      refine r_iinc C dX11_isAny_64 8 rfl (v := 1) rfl (by decide) rfl ?_
      refine r_goto C dX11_isAny_67 (tgt := 6) rfl ?_
      exact r_sub [1, 2, 3, 4, 5, 6, 7, 8, 0] rfl (g6 h2 l0 l1 l2 l3 l4 l5 l6 l7 (l8 + (1 : Int32)) w)
    · have w := w.2 hc
      refine r_aload_n C dX11_isAny_39 rfl 0 rfl ?_
      refine r_iload_n C dX11_isAny_40 rfl 1 rfl ?_
      refine r_iload C dX11_isAny_41 8 rfl ?_
      refine r_iload_n C dX11_isAny_43 rfl 2 rfl ?_
      refine r_iload C dX11_isAny_44 9 rfl ?_
      refine r_iload_n C dX11_isAny_46 rfl 3 rfl ?_
      refine r_iload C dX11_isAny_47 4 rfl ?_
      refine r_iload C dX11_isAny_49 5 rfl ?_
      refine r_iload C dX11_isAny_51 6 rfl ?_
      refine r_cvI (rm' := rmX11_isInside) C mX11_isInside vX11_isInside k1225 [aI l1, aI l8, aI l2, aI l9, aI l3, aI l4, aI l5, aI l6] [] rfl rfl (Nat.le_of_ble_eq_true rfl) (by decide) ⟨Nat.zero_le _, Nat.zero_le _⟩ 0 0 rfl rfl dX11_isAny_53 w (fun x3 h4 w => ?_)
      refine r_istore C dX11_isAny_56 (by decide) rfl ?_
      refine r_iinc C dX11_isAny_58 9 rfl (v := 1) rfl (by decide) rfl ?_
      refine r_goto C dX11_isAny_61 (tgt := 24) rfl ?_
      exact r_sub [2, 3, 4, 5, 6, 7, 8, 1, 9, 0] rfl (g24 h4 l0 l1 l2 l3 l4 l5 l6 x3 l8 (l9 + (1 : Int32)) w)
theorem lpX11_isAny_24 {E : EV} {X : AX} {post : Option AV → AH → Prop} (C : Cb E X cX11_isAny RX11 10 rmX11_isAny) (D : Cr E X (some .boolean) rmX11_isAny "isAny" post) {J6 : AH → Option Nat → Int32 → Int32 → Int32 → Int32 → Int32 → Int32 → Int32 → Int32 → Prop} (g6 : ∀ (h : AH) (l0 : Option Nat) (l1 : Int32) (l2 : Int32) (l3 : Int32) (l4 : Int32) (l5 : Int32) (l6 : Int32) (l7 : Int32) (l8 : Int32), J6 h l0 l1 l2 l3 l4 l5 l6 l7 l8 → Go E X 10 0 0 6 [(0, aP l0), (1, aI l1), (2, aI l2), (3, aI l3), (4, aI l4), (5, aI l5), (6, aI l6), (7, aI l7), (8, aI l8)] [] h) (I : Nat → AH → Option Nat → Int32 → Int32 → Int32 → Int32 → Int32 → Int32 → Int32 → Int32 → Int32 → Prop) (step : ∀ (z : Nat) (h : AH) (l0 : Option Nat) (l1 : Int32) (l2 : Int32) (l3 : Int32) (l4 : Int32) (l5 : Int32) (l6 : Int32) (l7 : Int32) (l8 : Int32) (l9 : Int32), I z h l0 l1 l2 l3 l4 l5 l6 l7 l8 l9 → PX11_isAny_24 E post J6 (fun h l0 l1 l2 l3 l4 l5 l6 l7 l8 l9 => ∃ z', z' < z ∧ I z' h l0 l1 l2 l3 l4 l5 l6 l7 l8 l9) h l0 l1 l2 l3 l4 l5 l6 l7 l8 l9) : ∀ (z : Nat) (h : AH) (l0 : Option Nat) (l1 : Int32) (l2 : Int32) (l3 : Int32) (l4 : Int32) (l5 : Int32) (l6 : Int32) (l7 : Int32) (l8 : Int32) (l9 : Int32), I z h l0 l1 l2 l3 l4 l5 l6 l7 l8 l9 → Go E X 10 0 0 24 [(0, aP l0), (1, aI l1), (2, aI l2), (3, aI l3), (4, aI l4), (5, aI l5), (6, aI l6), (7, aI l7), (8, aI l8), (9, aI l9)] [] h := by
  intro z
  induction z using Nat.strongRecOn with
  | _ z ih =>
    intro h l0 l1 l2 l3 l4 l5 l6 l7 l8 l9 hI
    exact bX11_isAny_24 C D g6 (fun h l0 l1 l2 l3 l4 l5 l6 l7 l8 l9 hJ => by obtain ⟨z', hz, hi⟩ := hJ; exact ih z' hz h l0 l1 l2 l3 l4 l5 l6 l7 l8 l9 hi) (step z h l0 l1 l2 l3 l4 l5 l6 l7 l8 l9 hI)
def PX11_isAny_6 (E : EV) (post : Option AV → AH → Prop) (J24 : AH → Option Nat → Int32 → Int32 → Int32 → Int32 → Int32 → Int32 → Int32 → Int32 → Int32 → Prop) (h : AH) (l0 : Option Nat) (l1 : Int32) (l2 : Int32) (l3 : Int32) (l4 : Int32) (l5 : Int32) (l6 : Int32) (l7 : Int32) (l8 : Int32) : Prop :=
  CV (sX11_pieces E) l0 11 [aI l1] h (kI fun x1 h2 => (x1 ≤ l8 → (l7 = 0 ∨ l7 = 1) ∧ post (some (aI l7)) h2) ∧ (¬ x1 ≤ l8 → (¬ l7 = 0 → (l7 = 0 ∨ l7 = 1) ∧ post (some (aI l7)) h2) ∧ (l7 = 0 → J24 h2 l0 l1 l2 l3 l4 l5 l6 l7 l8 (0 : Int32))))
theorem bX11_isAny_6 {E : EV} {X : AX} {post : Option AV → AH → Prop} (C : Cb E X cX11_isAny RX11 10 rmX11_isAny) (D : Cr E X (some .boolean) rmX11_isAny "isAny" post) {J24 : AH → Option Nat → Int32 → Int32 → Int32 → Int32 → Int32 → Int32 → Int32 → Int32 → Int32 → Prop} (g24 : ∀ (h : AH) (l0 : Option Nat) (l1 : Int32) (l2 : Int32) (l3 : Int32) (l4 : Int32) (l5 : Int32) (l6 : Int32) (l7 : Int32) (l8 : Int32) (l9 : Int32), J24 h l0 l1 l2 l3 l4 l5 l6 l7 l8 l9 → Go E X 10 0 0 24 [(0, aP l0), (1, aI l1), (2, aI l2), (3, aI l3), (4, aI l4), (5, aI l5), (6, aI l6), (7, aI l7), (8, aI l8), (9, aI l9)] [] h) {h : AH} {l0 : Option Nat} {l1 : Int32} {l2 : Int32} {l3 : Int32} {l4 : Int32} {l5 : Int32} {l6 : Int32} {l7 : Int32} {l8 : Int32} (w : PX11_isAny_6 E post J24 h l0 l1 l2 l3 l4 l5 l6 l7 l8) : Go E X 10 0 0 6 [(0, aP l0), (1, aI l1), (2, aI l2), (3, aI l3), (4, aI l4), (5, aI l5), (6, aI l6), (7, aI l7), (8, aI l8)] [] h := by
  unfold PX11_isAny_6 at w
  refine r_iload C dX11_isAny_6 8 rfl ?_
  refine r_aload_n C dX11_isAny_8 rfl 0 rfl ?_
  refine r_iload_n C dX11_isAny_9 rfl 1 rfl ?_
  refine r_cvI (rm' := rmX11_pieces) C mX11_pieces vX11_pieces k1115 [aI l1] [aI l8] rfl rfl (Nat.le_of_ble_eq_true rfl) (by decide) ⟨Nat.zero_le _, Nat.zero_le _⟩ 0 0 rfl rfl dX11_isAny_10 w (fun x1 h2 w => ?_)
  refine r_icmp_ge C dX11_isAny_13 (tgt := 70) rfl (fun hc => ?_) (fun hc => ?_)
  · have w := w.1 hc
    refine r_iload C dX11_isAny_70 7 rfl ?_
    exact r_zret C D rfl w.1 (Nat.zero_le _) (Nat.zero_le _) dX11_isAny_72 w.2
  · have w := w.2 hc
    refine r_iload C dX11_isAny_16 7 rfl ?_
    refine r_if_ne C dX11_isAny_18 (tgt := 70) rfl (fun hc => ?_) (fun hc => ?_)
    · have w := w.1 hc
      refine r_iload C dX11_isAny_70 7 rfl ?_
      exact r_zret C D rfl w.1 (Nat.zero_le _) (Nat.zero_le _) dX11_isAny_72 w.2
    · have w := w.2 hc
      refine r_iconst (v := 0) C dX11_isAny_21 rfl ?_
      refine r_istore C dX11_isAny_22 (by decide) rfl ?_
      exact r_sub [1, 2, 3, 4, 5, 6, 7, 8, 9, 0] rfl (g24 h2 l0 l1 l2 l3 l4 l5 l6 l7 l8 (0 : Int32) w)
def PX11_isAny_0 (E : EV) (post : Option AV → AH → Prop) (J6 : AH → Option Nat → Int32 → Int32 → Int32 → Int32 → Int32 → Int32 → Int32 → Int32 → Prop) (h : AH) (l0 : Option Nat) (l1 : Int32) (l2 : Int32) (l3 : Int32) (l4 : Int32) (l5 : Int32) (l6 : Int32) : Prop :=
  J6 h l0 l1 l2 l3 l4 l5 l6 (0 : Int32) (0 : Int32)
theorem bX11_isAny_0 {E : EV} {X : AX} {post : Option AV → AH → Prop} (C : Cb E X cX11_isAny RX11 10 rmX11_isAny) (D : Cr E X (some .boolean) rmX11_isAny "isAny" post) {J6 : AH → Option Nat → Int32 → Int32 → Int32 → Int32 → Int32 → Int32 → Int32 → Int32 → Prop} (g6 : ∀ (h : AH) (l0 : Option Nat) (l1 : Int32) (l2 : Int32) (l3 : Int32) (l4 : Int32) (l5 : Int32) (l6 : Int32) (l7 : Int32) (l8 : Int32), J6 h l0 l1 l2 l3 l4 l5 l6 l7 l8 → Go E X 10 0 0 6 [(0, aP l0), (1, aI l1), (2, aI l2), (3, aI l3), (4, aI l4), (5, aI l5), (6, aI l6), (7, aI l7), (8, aI l8)] [] h) {h : AH} {l0 : Option Nat} {l1 : Int32} {l2 : Int32} {l3 : Int32} {l4 : Int32} {l5 : Int32} {l6 : Int32} (w : PX11_isAny_0 E post J6 h l0 l1 l2 l3 l4 l5 l6) : Go E X 10 0 0 0 [(0, aP l0), (1, aI l1), (2, aI l2), (3, aI l3), (4, aI l4), (5, aI l5), (6, aI l6)] [] h := by
  unfold PX11_isAny_0 at w
  refine r_iconst (v := 0) C dX11_isAny_0 rfl ?_
  refine r_istore C dX11_isAny_1 (by decide) rfl ?_
  refine r_iconst (v := 0) C dX11_isAny_3 rfl ?_
  refine r_istore C dX11_isAny_4 (by decide) rfl ?_
  exact r_sub [2, 3, 4, 5, 6, 7, 8, 1, 0] rfl (g6 h l0 l1 l2 l3 l4 l5 l6 (0 : Int32) (0 : Int32) w)
theorem eX11_isAny {E : EV} {post : Option AV → AH → Prop} {h : AH} {l0 : Option Nat} {l1 : Int32} {l2 : Int32} {l3 : Int32} {l4 : Int32} {l5 : Int32} {l6 : Int32} {J6 : AH → Option Nat → Int32 → Int32 → Int32 → Int32 → Int32 → Int32 → Int32 → Int32 → Prop} (g6 : ∀ X : AX, Cb E X cX11_isAny RX11 10 rmX11_isAny → Cr E X (some .boolean) rmX11_isAny "isAny" post → ∀ (h : AH) (l0 : Option Nat) (l1 : Int32) (l2 : Int32) (l3 : Int32) (l4 : Int32) (l5 : Int32) (l6 : Int32) (l7 : Int32) (l8 : Int32), J6 h l0 l1 l2 l3 l4 l5 l6 l7 l8 → Go E X 10 0 0 6 [(0, aP l0), (1, aI l1), (2, aI l2), (3, aI l3), (4, aI l4), (5, aI l5), (6, aI l6), (7, aI l7), (8, aI l8)] [] h) (w : PX11_isAny_0 E post J6 h l0 l1 l2 l3 l4 l5 l6) : sX11_isAny E [aP l0, aI l1, aI l2, aI l3, aI l4, aI l5, aI l6] h post := Spec.of RX11 rfl rfl (Nat.le_of_ble_eq_true rfl) fun X C D => bX11_isAny_0 C D (g6 X C D) w
theorem dX11_fits_0 : decode cX11_fits 0 = .ok (.aload_n 0, 1) := by decide +kernel
theorem dX11_fits_1 : decode cX11_fits 1 = .ok (.iload_n 1, 1) := by decide +kernel
theorem dX11_fits_2 : decode cX11_fits 2 = .ok (.iload_n 2, 1) := by decide +kernel
theorem dX11_fits_3 : decode cX11_fits 3 = .ok (.iload_n 3, 1) := by decide +kernel
theorem dX11_fits_4 : decode cX11_fits 4 = .ok (.invokevirtual 254, 3) := by decide +kernel
theorem dX11_fits_7 : decode cX11_fits 7 = .ok (.istore 5, 2) := by decide +kernel
theorem dX11_fits_9 : decode cX11_fits 9 = .ok (.iconst 0, 1) := by decide +kernel
theorem dX11_fits_10 : decode cX11_fits 10 = .ok (.istore 6, 2) := by decide +kernel
theorem dX11_fits_12 : decode cX11_fits 12 = .ok (.iload 6, 2) := by decide +kernel
theorem dX11_fits_14 : decode cX11_fits 14 = .ok (.aload_n 0, 1) := by decide +kernel
theorem dX11_fits_15 : decode cX11_fits 15 = .ok (.getfield 7, 3) := by decide +kernel
theorem dX11_fits_18 : decode cX11_fits 18 = .ok (.iconst 3, 1) := by decide +kernel
theorem dX11_fits_19 : decode cX11_fits 19 = .ok (.iaload, 1) := by decide +kernel
theorem dX11_fits_20 : decode cX11_fits 20 = .ok (.if_icmp .ge 64, 3) := by decide +kernel
theorem dX11_fits_23 : decode cX11_fits 23 = .ok (.iload 5, 2) := by decide +kernel
theorem dX11_fits_25 : decode cX11_fits 25 = .ok (.ifCond .eq 59, 3) := by decide +kernel
theorem dX11_fits_28 : decode cX11_fits 28 = .ok (.iload 6, 2) := by decide +kernel
theorem dX11_fits_30 : decode cX11_fits 30 = .ok (.iload 4, 2) := by decide +kernel
theorem dX11_fits_32 : decode cX11_fits 32 = .ok (.if_icmp .eq 39, 3) := by decide +kernel
theorem dX11_fits_35 : decode cX11_fits 35 = .ok (.aload_n 0, 1) := by decide +kernel
theorem dX11_fits_36 : decode cX11_fits 36 = .ok (.iload 6, 2) := by decide +kernel
theorem dX11_fits_38 : decode cX11_fits 38 = .ok (.invokestatic 257, 3) := by decide +kernel
theorem dX11_fits_41 : decode cX11_fits 41 = .ok (.iload_n 1, 1) := by decide +kernel
theorem dX11_fits_42 : decode cX11_fits 42 = .ok (.iload_n 2, 1) := by decide +kernel
theorem dX11_fits_43 : decode cX11_fits 43 = .ok (.aload_n 0, 1) := by decide +kernel
theorem dX11_fits_44 : decode cX11_fits 44 = .ok (.iload 6, 2) := by decide +kernel
theorem dX11_fits_46 : decode cX11_fits 46 = .ok (.invokevirtual 260, 3) := by decide +kernel
theorem dX11_fits_49 : decode cX11_fits 49 = .ok (.isub, 1) := by decide +kernel
theorem dX11_fits_50 : decode cX11_fits 50 = .ok (.iload_n 3, 1) := by decide +kernel
theorem dX11_fits_51 : decode cX11_fits 51 = .ok (.aload_n 0, 1) := by decide +kernel
theorem dX11_fits_52 : decode cX11_fits 52 = .ok (.iload 6, 2) := by decide +kernel
theorem dX11_fits_54 : decode cX11_fits 54 = .ok (.invokevirtual 263, 3) := by decide +kernel
theorem dX11_fits_57 : decode cX11_fits 57 = .ok (.isub, 1) := by decide +kernel
theorem dX11_fits_58 : decode cX11_fits 58 = .ok (.aload_n 0, 1) := by decide +kernel
theorem dX11_fits_59 : decode cX11_fits 59 = .ok (.getfield 7, 3) := by decide +kernel
theorem dX11_fits_62 : decode cX11_fits 62 = .ok (.iconst 2, 1) := by decide +kernel
theorem dX11_fits_63 : decode cX11_fits 63 = .ok (.iaload, 1) := by decide +kernel
theorem dX11_fits_64 : decode cX11_fits 64 = .ok (.iconst 0, 1) := by decide +kernel
theorem dX11_fits_65 : decode cX11_fits 65 = .ok (.invokevirtual 103, 3) := by decide +kernel
theorem dX11_fits_68 : decode cX11_fits 68 = .ok (.ifCond .ne 7, 3) := by decide +kernel
theorem dX11_fits_71 : decode cX11_fits 71 = .ok (.iconst 1, 1) := by decide +kernel
theorem dX11_fits_72 : decode cX11_fits 72 = .ok (.goto 4, 3) := by decide +kernel
theorem dX11_fits_75 : decode cX11_fits 75 = .ok (.iconst 0, 1) := by decide +kernel
theorem dX11_fits_76 : decode cX11_fits 76 = .ok (.istore 5, 2) := by decide +kernel
theorem dX11_fits_78 : decode cX11_fits 78 = .ok (.iinc 6 1, 3) := by decide +kernel
theorem dX11_fits_81 : decode cX11_fits 81 = .ok (.goto (-69), 3) := by decide +kernel
theorem dX11_fits_84 : decode cX11_fits 84 = .ok (.iload 5, 2) := by decide +kernel
theorem dX11_fits_86 : decode cX11_fits 86 = .ok (.ireturn, 1) := by decide +kernel
abbrev rmX11_fits : Room := { frames := 5, cells := 0, slots := 0, locals := 200 }
abbrev sX11_fits (E : EV) : List AV → AH → (Option AV → AH → Prop) → Prop := Spec E yX11_fits cX11_fits 7 (some .boolean) rmX11_fits
theorem mX11_fits : Mt yX11_fits cX11_fits 7 (some .boolean) 4 := ⟨k1303, k12, by decide +kernel⟩
theorem vX11_fits : MtV yX11_fits 11 := ⟨k1302, kp68, by decide, (RX11, TX11, 26), rfl, rfl⟩
def PX11_fits_12 (E : EV) (post : Option AV → AH → Prop) (J12 : AH → Option Nat → Int32 → Int32 → Int32 → Int32 → Int32 → Int32 → Prop) (h : AH) (l0 : Option Nat) (l1 : Int32) (l2 : Int32) (l3 : Int32) (l4 : Int32) (l5 : Int32) (l6 : Int32) : Prop :=
  rdP h l0 11 0 fun x1 => aldI h x1 0 (3 : Int32) fun x2 => (x2 ≤ l6 → (l5 = 0 ∨ l5 = 1) ∧ post (some (aI l5)) h) ∧ (¬ x2 ≤ l6 → (l5 = 0 → (l5 = 0 ∨ l5 = 1) ∧ post (some (aI l5)) h) ∧ (¬ l5 = 0 → (l6 = l4 → J12 h l0 l1 l2 l3 l4 (1 : Int32) (l6 + (1 : Int32))) ∧ (¬ l6 = l4 → CS (sX11_itemShape E) [aI l6] h (kI fun x3 h4 => CV (sX11_itemX E) l0 11 [aI l6] h4 (kI fun x5 h6 => CV (sX11_itemY E) l0 11 [aI l6] h6 (kI fun x7 h8 => rdP h8 l0 11 0 fun x9 => aldI h8 x9 0 (2 : Int32) fun x10 => CV (sX11_isAny E) l0 11 [aI x3, aI l1, aI (l2 - x5), aI (l3 - x7), aI x10, aI (0 : Int32)] h8 (kI fun x11 h12 => (¬ x11 = 0 → J12 h12 l0 l1 l2 l3 l4 (0 : Int32) (l6 + (1 : Int32))) ∧ (x11 = 0 → J12 h12 l0 l1 l2 l3 l4 (1 : Int32) (l6 + (1 : Int32))))))))))
theorem bX11_fits_12 {E : EV} {X : AX} {post : Option AV → AH → Prop} (C : Cb E X cX11_fits RX11 7 rmX11_fits) (D : Cr E X (some .boolean) rmX11_fits "fits" post) {J12 : AH → Option Nat → Int32 → Int32 → Int32 → Int32 → Int32 → Int32 → Prop} (g12 : ∀ (h : AH) (l0 : Option Nat) (l1 : Int32) (l2 : Int32) (l3 : Int32) (l4 : Int32) (l5 : Int32) (l6 : Int32), J12 h l0 l1 l2 l3 l4 l5 l6 → Go E X 7 0 0 12 [(0, aP l0), (1, aI l1), (2, aI l2), (3, aI l3), (4, aI l4), (5, aI l5), (6, aI l6)] [] h) {h : AH} {l0 : Option Nat} {l1 : Int32} {l2 : Int32} {l3 : Int32} {l4 : Int32} {l5 : Int32} {l6 : Int32} (w : PX11_fits_12 E post J12 h l0 l1 l2 l3 l4 l5 l6) : Go E X 7 0 0 12 [(0, aP l0), (1, aI l1), (2, aI l2), (3, aI l3), (4, aI l4), (5, aI l5), (6, aI l6)] [] h := by
  unfold PX11_fits_12 at w
  refine r_iload C dX11_fits_12 6 rfl ?_
  refine r_aload_n C dX11_fits_14 rfl 0 rfl ?_
  refine r_getP C fcX11 (f := 0) (by decide) rfl k943 dX11_fits_15 (w.mono fun x1 w => ?_)
  refine r_iconst (v := 3) C dX11_fits_18 rfl ?_
  refine r_iald C dX11_fits_19 (w.mono fun x2 w => ?_)
  refine r_icmp_ge C dX11_fits_20 (tgt := 84) rfl (fun hc => ?_) (fun hc => ?_)
  · have w := w.1 hc
    refine r_iload C dX11_fits_84 5 rfl ?_
    exact r_zret C D rfl w.1 (Nat.zero_le _) (Nat.zero_le _) dX11_fits_86 w.2
  · have w := w.2 hc
    refine r_iload C dX11_fits_23 5 rfl ?_
    refine r_if_eq C dX11_fits_25 (tgt := 84) rfl (fun hc => ?_) (fun hc => ?_)
    · have w := w.1 hc
      refine r_iload C dX11_fits_84 5 rfl ?_
      exact r_zret C D rfl w.1 (Nat.zero_le _) (Nat.zero_le _) dX11_fits_86 w.2
    · have w := w.2 hc
      refine r_iload C dX11_fits_28 6 rfl ?_
      refine r_iload C dX11_fits_30 4 rfl ?_
      refine r_icmp_eq C dX11_fits_32 (tgt := 71) rfl (fun hc => ?_) (fun hc => ?_)
      · have w := w.1 hc
        refine r_iconst (v := 1) C dX11_fits_71 rfl ?_
        refine r_goto C dX11_fits_72 (tgt := 76) rfl ?_
        refine r_istore C dX11_fits_76 (by decide) rfl ?_
        refine r_iinc C dX11_fits_78 6 rfl (v := 1) rfl (by decide) rfl ?_
        refine r_goto C dX11_fits_81 (tgt := 12) rfl ?_
        exact r_sub [2, 3, 4, 5, 6, 1, 0] rfl (g12 h l0 l1 l2 l3 l4 (1 : Int32) (l6 + (1 : Int32)) w)
      · have w := w.2 hc
        refine r_aload_n C dX11_fits_35 rfl 0 rfl ?_
        refine r_iload C dX11_fits_36 6 rfl ?_
        refine r_csI (rm' := rmX11_itemShape) C mX11_itemShape vX11_itemShape k1281 [aI l6] [aP l0] rfl rfl (Nat.le_of_ble_eq_true rfl) (by decide) ⟨Nat.zero_le _, Nat.zero_le _⟩ 0 0 rfl rfl dX11_fits_38 w (fun x3 h4 w => ?_)
        refine r_iload_n C dX11_fits_41 rfl 1 rfl ?_
        refine r_iload_n C dX11_fits_42 rfl 2 rfl ?_
        refine r_aload_n C dX11_fits_43 rfl 0 rfl ?_
        refine r_iload C dX11_fits_44 6 rfl ?_
        refine r_cvI (rm' := rmX11_itemX) C mX11_itemX vX11_itemX k1284 [aI l6] [aI l2, aI l1, aI x3, aP l0] rfl rfl (Nat.le_of_ble_eq_true rfl) (by decide) ⟨Nat.zero_le _, Nat.zero_le _⟩ 0 0 rfl rfl dX11_fits_46 w (fun x5 h6 w => ?_)
        refine r_isub C dX11_fits_49 ?_
        refine r_iload_n C dX11_fits_50 rfl 3 rfl ?_
        refine r_aload_n C dX11_fits_51 rfl 0 rfl ?_
        refine r_iload C dX11_fits_52 6 rfl ?_
        refine r_cvI (rm' := rmX11_itemY) C mX11_itemY vX11_itemY k1288 [aI l6] [aI l3, aI (l2 - x5), aI l1, aI x3, aP l0] rfl rfl (Nat.le_of_ble_eq_true rfl) (by decide) ⟨Nat.zero_le _, Nat.zero_le _⟩ 0 0 rfl rfl dX11_fits_54 w (fun x7 h8 w => ?_)
        refine r_isub C dX11_fits_57 ?_
        refine r_aload_n C dX11_fits_58 rfl 0 rfl ?_
        refine r_getP C fcX11 (f := 0) (by decide) rfl k943 dX11_fits_59 (w.mono fun x9 w => ?_)
        refine r_iconst (v := 2) C dX11_fits_62 rfl ?_
        refine r_iald C dX11_fits_63 (w.mono fun x10 w => ?_)
        refine r_iconst (v := 0) C dX11_fits_64 rfl ?_
        refine r_cvI (rm' := rmX11_isAny) C mX11_isAny vX11_isAny k1221 [aI x3, aI l1, aI (l2 - x5), aI (l3 - x7), aI x10, aI (0 : Int32)] [] rfl rfl (Nat.le_of_ble_eq_true rfl) (by decide) ⟨Nat.zero_le _, Nat.zero_le _⟩ 0 0 rfl rfl dX11_fits_65 w (fun x11 h12 w => ?_)
        refine r_if_ne C dX11_fits_68 (tgt := 75) rfl (fun hc => ?_) (fun hc => ?_)
        · have w := w.1 hc
          refine r_iconst (v := 0) C dX11_fits_75 rfl ?_
          refine r_istore C dX11_fits_76 (by decide) rfl ?_
          refine r_iinc C dX11_fits_78 6 rfl (v := 1) rfl (by decide) rfl ?_
          refine r_goto C dX11_fits_81 (tgt := 12) rfl ?_
          exact r_sub [2, 3, 4, 5, 6, 1, 0] rfl (g12 h12 l0 l1 l2 l3 l4 (0 : Int32) (l6 + (1 : Int32)) w)
        · have w := w.2 hc
          refine r_iconst (v := 1) C dX11_fits_71 rfl ?_
          refine r_goto C dX11_fits_72 (tgt := 76) rfl ?_
          refine r_istore C dX11_fits_76 (by decide) rfl ?_
          refine r_iinc C dX11_fits_78 6 rfl (v := 1) rfl (by decide) rfl ?_
          refine r_goto C dX11_fits_81 (tgt := 12) rfl ?_
          exact r_sub [2, 3, 4, 5, 6, 1, 0] rfl (g12 h12 l0 l1 l2 l3 l4 (1 : Int32) (l6 + (1 : Int32)) w)
theorem lpX11_fits_12 {E : EV} {X : AX} {post : Option AV → AH → Prop} (C : Cb E X cX11_fits RX11 7 rmX11_fits) (D : Cr E X (some .boolean) rmX11_fits "fits" post) (I : Nat → AH → Option Nat → Int32 → Int32 → Int32 → Int32 → Int32 → Int32 → Prop) (step : ∀ (z : Nat) (h : AH) (l0 : Option Nat) (l1 : Int32) (l2 : Int32) (l3 : Int32) (l4 : Int32) (l5 : Int32) (l6 : Int32), I z h l0 l1 l2 l3 l4 l5 l6 → PX11_fits_12 E post (fun h l0 l1 l2 l3 l4 l5 l6 => ∃ z', z' < z ∧ I z' h l0 l1 l2 l3 l4 l5 l6) h l0 l1 l2 l3 l4 l5 l6) : ∀ (z : Nat) (h : AH) (l0 : Option Nat) (l1 : Int32) (l2 : Int32) (l3 : Int32) (l4 : Int32) (l5 : Int32) (l6 : Int32), I z h l0 l1 l2 l3 l4 l5 l6 → Go E X 7 0 0 12 [(0, aP l0), (1, aI l1), (2, aI l2), (3, aI l3), (4, aI l4), (5, aI l5), (6, aI l6)] [] h := by
  intro z
  induction z using Nat.strongRecOn with
  | _ z ih =>
    intro h l0 l1 l2 l3 l4 l5 l6 hI
    exact bX11_fits_12 C D (fun h l0 l1 l2 l3 l4 l5 l6 hJ => by obtain ⟨z', hz, hi⟩ := hJ; exact ih z' hz h l0 l1 l2 l3 l4 l5 l6 hi) (step z h l0 l1 l2 l3 l4 l5 l6 hI)
def PX11_fits_0 (E : EV) (post : Option AV → AH → Prop) (J12 : AH → Option Nat → Int32 → Int32 → Int32 → Int32 → Int32 → Int32 → Prop) (h : AH) (l0 : Option Nat) (l1 : Int32) (l2 : Int32) (l3 : Int32) (l4 : Int32) : Prop :=
  CV (sX11_isContained E) l0 11 [aI l1, aI l2, aI l3] h (kI fun x1 h2 => J12 h2 l0 l1 l2 l3 l4 x1 (0 : Int32))
theorem bX11_fits_0 {E : EV} {X : AX} {post : Option AV → AH → Prop} (C : Cb E X cX11_fits RX11 7 rmX11_fits) (D : Cr E X (some .boolean) rmX11_fits "fits" post) {J12 : AH → Option Nat → Int32 → Int32 → Int32 → Int32 → Int32 → Int32 → Prop} (g12 : ∀ (h : AH) (l0 : Option Nat) (l1 : Int32) (l2 : Int32) (l3 : Int32) (l4 : Int32) (l5 : Int32) (l6 : Int32), J12 h l0 l1 l2 l3 l4 l5 l6 → Go E X 7 0 0 12 [(0, aP l0), (1, aI l1), (2, aI l2), (3, aI l3), (4, aI l4), (5, aI l5), (6, aI l6)] [] h) {h : AH} {l0 : Option Nat} {l1 : Int32} {l2 : Int32} {l3 : Int32} {l4 : Int32} (w : PX11_fits_0 E post J12 h l0 l1 l2 l3 l4) : Go E X 7 0 0 0 [(0, aP l0), (1, aI l1), (2, aI l2), (3, aI l3), (4, aI l4)] [] h := by
  unfold PX11_fits_0 at w
  refine r_aload_n C dX11_fits_0 rfl 0 rfl ?_
  refine r_iload_n C dX11_fits_1 rfl 1 rfl ?_
  refine r_iload_n C dX11_fits_2 rfl 2 rfl ?_
  refine r_iload_n C dX11_fits_3 rfl 3 rfl ?_
  refine r_cvI (rm' := rmX11_isContained) C mX11_isContained vX11_isContained k1304 [aI l1, aI l2, aI l3] [] rfl rfl (Nat.le_of_ble_eq_true rfl) (by decide) ⟨Nat.zero_le _, Nat.zero_le _⟩ 0 0 rfl rfl dX11_fits_4 w (fun x1 h2 w => ?_)
  refine r_istore C dX11_fits_7 (by decide) rfl ?_
  refine r_iconst (v := 0) C dX11_fits_9 rfl ?_
  refine r_istore C dX11_fits_10 (by decide) rfl ?_
  exact r_sub [2, 3, 4, 5, 6, 1, 0] rfl (g12 h2 l0 l1 l2 l3 l4 x1 (0 : Int32) w)
theorem eX11_fits {E : EV} {post : Option AV → AH → Prop} {h : AH} {l0 : Option Nat} {l1 : Int32} {l2 : Int32} {l3 : Int32} {l4 : Int32} {J12 : AH → Option Nat → Int32 → Int32 → Int32 → Int32 → Int32 → Int32 → Prop} (g12 : ∀ X : AX, Cb E X cX11_fits RX11 7 rmX11_fits → Cr E X (some .boolean) rmX11_fits "fits" post → ∀ (h : AH) (l0 : Option Nat) (l1 : Int32) (l2 : Int32) (l3 : Int32) (l4 : Int32) (l5 : Int32) (l6 : Int32), J12 h l0 l1 l2 l3 l4 l5 l6 → Go E X 7 0 0 12 [(0, aP l0), (1, aI l1), (2, aI l2), (3, aI l3), (4, aI l4), (5, aI l5), (6, aI l6)] [] h) (w : PX11_fits_0 E post J12 h l0 l1 l2 l3 l4) : sX11_fits E [aP l0, aI l1, aI l2, aI l3, aI l4] h post := Spec.of RX11 rfl rfl (Nat.le_of_ble_eq_true rfl) fun X C D => bX11_fits_0 C D (g12 X C D) w
theorem dX11_canCompact_0 : decode cX11_canCompact 0 = .ok (.iconst 0, 1) := by decide +kernel
theorem dX11_canCompact_1 : decode cX11_canCompact 1 = .ok (.istore_n 1, 1) := by decide +kernel
theorem dX11_canCompact_2 : decode cX11_canCompact 2 = .ok (.iconst 0, 1) := by decide +kernel
theorem dX11_canCompact_3 : decode cX11_canCompact 3 = .ok (.istore_n 2, 1) := by decide +kernel
theorem dX11_canCompact_4 : decode cX11_canCompact 4 = .ok (.iload_n 2, 1) := by decide +kernel
theorem dX11_canCompact_5 : decode cX11_canCompact 5 = .ok (.aload_n 0, 1) := by decide +kernel
theorem dX11_canCompact_6 : decode cX11_canCompact 6 = .ok (.getfield 7, 3) := by decide +kernel
theorem dX11_canCompact_9 : decode cX11_canCompact 9 = .ok (.iconst 3, 1) := by decide +kernel
theorem dX11_canCompact_10 : decode cX11_canCompact 10 = .ok (.iaload, 1) := by decide +kernel
theorem dX11_canCompact_11 : decode cX11_canCompact 11 = .ok (.if_icmp .ge 67, 3) := by decide +kernel
theorem dX11_canCompact_14 : decode cX11_canCompact 14 = .ok (.iload_n 1, 1) := by decide +kernel
theorem dX11_canCompact_15 : decode cX11_canCompact 15 = .ok (.ifCond .ne 51, 3) := by decide +kernel
theorem dX11_canCompact_18 : decode cX11_canCompact 18 = .ok (.aload_n 0, 1) := by decide +kernel
theorem dX11_canCompact_19 : decode cX11_canCompact 19 = .ok (.iload_n 2, 1) := by decide +kernel
theorem dX11_canCompact_20 : decode cX11_canCompact 20 = .ok (.invokestatic 257, 3) := by decide +kernel
theorem dX11_canCompact_23 : decode cX11_canCompact 23 = .ok (.aload_n 0, 1) := by decide +kernel
theorem dX11_canCompact_24 : decode cX11_canCompact 24 = .ok (.iload_n 2, 1) := by decide +kernel
theorem dX11_canCompact_25 : decode cX11_canCompact 25 = .ok (.invokevirtual 260, 3) := by decide +kernel
theorem dX11_canCompact_28 : decode cX11_canCompact 28 = .ok (.aload_n 0, 1) := by decide +kernel
theorem dX11_canCompact_29 : decode cX11_canCompact 29 = .ok (.iload_n 2, 1) := by decide +kernel
theorem dX11_canCompact_30 : decode cX11_canCompact 30 = .ok (.invokevirtual 263, 3) := by decide +kernel
theorem dX11_canCompact_33 : decode cX11_canCompact 33 = .ok (.iconst 1, 1) := by decide +kernel
theorem dX11_canCompact_34 : decode cX11_canCompact 34 = .ok (.isub, 1) := by decide +kernel
theorem dX11_canCompact_35 : decode cX11_canCompact 35 = .ok (.iload_n 2, 1) := by decide +kernel
theorem dX11_canCompact_36 : decode cX11_canCompact 36 = .ok (.invokevirtual 266, 3) := by decide +kernel
theorem dX11_canCompact_39 : decode cX11_canCompact 39 = .ok (.ifCond .ne 27, 3) := by decide +kernel
theorem dX11_canCompact_42 : decode cX11_canCompact 42 = .ok (.aload_n 0, 1) := by decide +kernel
theorem dX11_canCompact_43 : decode cX11_canCompact 43 = .ok (.iload_n 2, 1) := by decide +kernel
theorem dX11_canCompact_44 : decode cX11_canCompact 44 = .ok (.invokestatic 257, 3) := by decide +kernel
theorem dX11_canCompact_47 : decode cX11_canCompact 47 = .ok (.aload_n 0, 1) := by decide +kernel
theorem dX11_canCompact_48 : decode cX11_canCompact 48 = .ok (.iload_n 2, 1) := by decide +kernel
theorem dX11_canCompact_49 : decode cX11_canCompact 49 = .ok (.invokevirtual 260, 3) := by decide +kernel
theorem dX11_canCompact_52 : decode cX11_canCompact 52 = .ok (.iconst 1, 1) := by decide +kernel
theorem dX11_canCompact_53 : decode cX11_canCompact 53 = .ok (.isub, 1) := by decide +kernel
theorem dX11_canCompact_54 : decode cX11_canCompact 54 = .ok (.aload_n 0, 1) := by decide +kernel
theorem dX11_canCompact_55 : decode cX11_canCompact 55 = .ok (.iload_n 2, 1) := by decide +kernel
theorem dX11_canCompact_56 : decode cX11_canCompact 56 = .ok (.invokevirtual 263, 3) := by decide +kernel
theorem dX11_canCompact_59 : decode cX11_canCompact 59 = .ok (.iload_n 2, 1) := by decide +kernel
theorem dX11_canCompact_60 : decode cX11_canCompact 60 = .ok (.invokevirtual 266, 3) := by decide +kernel
theorem dX11_canCompact_63 : decode cX11_canCompact 63 = .ok (.ifCond .eq 7, 3) := by decide +kernel
theorem dX11_canCompact_66 : decode cX11_canCompact 66 = .ok (.iconst 1, 1) := by decide +kernel
theorem dX11_canCompact_67 : decode cX11_canCompact 67 = .ok (.goto 4, 3) := by decide +kernel
theorem dX11_canCompact_70 : decode cX11_canCompact 70 = .ok (.iconst 0, 1) := by decide +kernel
theorem dX11_canCompact_71 : decode cX11_canCompact 71 = .ok (.istore_n 1, 1) := by decide +kernel
theorem dX11_canCompact_72 : decode cX11_canCompact 72 = .ok (.iinc 2 1, 3) := by decide +kernel
theorem dX11_canCompact_75 : decode cX11_canCompact 75 = .ok (.goto (-71), 3) := by decide +kernel
theorem dX11_canCompact_78 : decode cX11_canCompact 78 = .ok (.iload_n 1, 1) := by decide +kernel
theorem dX11_canCompact_79 : decode cX11_canCompact 79 = .ok (.ireturn, 1) := by decide +kernel
abbrev rmX11_canCompact : Room := { frames := 6, cells := 0, slots := 0, locals := 240 }
abbrev sX11_canCompact (E : EV) : List AV → AH → (Option AV → AH → Prop) → Prop := Spec E yX11_canCompact cX11_canCompact 3 (some .boolean) rmX11_canCompact
theorem mX11_canCompact : Mt yX11_canCompact cX11_canCompact 3 (some .boolean) 0 := ⟨k1364, k12, by decide +kernel⟩
theorem vX11_canCompact : MtV yX11_canCompact 11 := ⟨k1363, kp78, by decide, (RX11, TX11, 26), rfl, rfl⟩
def PX11_canCompact_4 (E : EV) (post : Option AV → AH → Prop) (J4 : AH → Option Nat → Int32 → Int32 → Prop) (h : AH) (l0 : Option Nat) (l1 : Int32) (l2 : Int32) : Prop :=
  rdP h l0 11 0 fun x1 => aldI h x1 0 (3 : Int32) fun x2 => (x2 ≤ l2 → (l1 = 0 ∨ l1 = 1) ∧ post (some (aI l1)) h) ∧ (¬ x2 ≤ l2 → (¬ l1 = 0 → J4 h l0 (1 : Int32) (l2 + (1 : Int32))) ∧ (l1 = 0 → CS (sX11_itemShape E) [aI l2] h (kI fun x3 h4 => CV (sX11_itemX E) l0 11 [aI l2] h4 (kI fun x5 h6 => CV (sX11_itemY E) l0 11 [aI l2] h6 (kI fun x7 h8 => CV (sX11_fits E) l0 11 [aI x3, aI x5, aI (x7 - (1 : Int32)), aI l2] h8 (kI fun x9 h10 => (¬ x9 = 0 → J4 h10 l0 (1 : Int32) (l2 + (1 : Int32))) ∧ (x9 = 0 → CS (sX11_itemShape E) [aI l2] h10 (kI fun x11 h12 => CV (sX11_itemX E) l0 11 [aI l2] h12 (kI fun x13 h14 => CV (sX11_itemY E) l0 11 [aI l2] h14 (kI fun x15 h16 => CV (sX11_fits E) l0 11 [aI x11, aI (x13 - (1 : Int32)), aI x15, aI l2] h16 (kI fun x17 h18 => (x17 = 0 → J4 h18 l0 (0 : Int32) (l2 + (1 : Int32))) ∧ (¬ x17 = 0 → J4 h18 l0 (1 : Int32) (l2 + (1 : Int32))))))))))))))
theorem bX11_canCompact_4 {E : EV} {X : AX} {post : Option AV → AH → Prop} (C : Cb E X cX11_canCompact RX11 3 rmX11_canCompact) (D : Cr E X (some .boolean) rmX11_canCompact "canCompact" post) {J4 : AH → Option Nat → Int32 → Int32 → Prop} (g4 : ∀ (h : AH) (l0 : Option Nat) (l1 : Int32) (l2 : Int32), J4 h l0 l1 l2 → Go E X 3 0 0 4 [(0, aP l0), (1, aI l1), (2, aI l2)] [] h) {h : AH} {l0 : Option Nat} {l1 : Int32} {l2 : Int32} (w : PX11_canCompact_4 E post J4 h l0 l1 l2) : Go E X 3 0 0 4 [(0, aP l0), (1, aI l1), (2, aI l2)] [] h := by
  unfold PX11_canCompact_4 at w
  refine r_iload_n C dX11_canCompact_4 rfl 2 rfl ?_
  refine r_aload_n C dX11_canCompact_5 rfl 0 rfl ?_
  refine r_getP C fcX11 (f := 0) (by decide) rfl k943 dX11_canCompact_6 (w.mono fun x1 w => ?_)
  refine r_iconst (v := 3) C dX11_canCompact_9 rfl ?_
  refine r_iald C dX11_canCompact_10 (w.mono fun x2 w => ?_)
  refine r_icmp_ge C dX11_canCompact_11 (tgt := 78) rfl (fun hc => ?_) (fun hc => ?_)
  · have w := w.1 hc
    refine r_iload_n C dX11_canCompact_78 rfl 1 rfl ?_
    exact r_zret C D rfl w.1 (Nat.zero_le _) (Nat.zero_le _) dX11_canCompact_79 w.2
  · have w := w.2 hc
    refine r_iload_n C dX11_canCompact_14 rfl 1 rfl ?_
    refine r_if_ne C dX11_canCompact_15 (tgt := 66) rfl (fun hc => ?_) (fun hc => ?_)
    · have w := w.1 hc
      refine r_iconst (v := 1) C dX11_canCompact_66 rfl ?_
      refine r_goto C dX11_canCompact_67 (tgt := 71) rfl ?_
      refine r_istore_n C dX11_canCompact_71 rfl (by decide) rfl ?_
      refine r_iinc C dX11_canCompact_72 2 rfl (v := 1) rfl (by decide) rfl ?_
      refine r_goto C dX11_canCompact_75 (tgt := 4) rfl ?_
      exact r_sub [2, 1, 0] rfl (g4 h l0 (1 : Int32) (l2 + (1 : Int32)) w)
    · have w := w.2 hc
      refine r_aload_n C dX11_canCompact_18 rfl 0 rfl ?_
      refine r_iload_n C dX11_canCompact_19 rfl 2 rfl ?_
      refine r_csI (rm' := rmX11_itemShape) C mX11_itemShape vX11_itemShape k1281 [aI l2] [aP l0] rfl rfl (Nat.le_of_ble_eq_true rfl) (by decide) ⟨Nat.zero_le _, Nat.zero_le _⟩ 0 0 rfl rfl dX11_canCompact_20 w (fun x3 h4 w => ?_)
      refine r_aload_n C dX11_canCompact_23 rfl 0 rfl ?_
      refine r_iload_n C dX11_canCompact_24 rfl 2 rfl ?_
      refine r_cvI (rm' := rmX11_itemX) C mX11_itemX vX11_itemX k1284 [aI l2] [aI x3, aP l0] rfl rfl (Nat.le_of_ble_eq_true rfl) (by decide) ⟨Nat.zero_le _, Nat.zero_le _⟩ 0 0 rfl rfl dX11_canCompact_25 w (fun x5 h6 w => ?_)
      refine r_aload_n C dX11_canCompact_28 rfl 0 rfl ?_
      refine r_iload_n C dX11_canCompact_29 rfl 2 rfl ?_
      refine r_cvI (rm' := rmX11_itemY) C mX11_itemY vX11_itemY k1288 [aI l2] [aI x5, aI x3, aP l0] rfl rfl (Nat.le_of_ble_eq_true rfl) (by decide) ⟨Nat.zero_le _, Nat.zero_le _⟩ 0 0 rfl rfl dX11_canCompact_30 w (fun x7 h8 w => ?_)
      refine r_iconst (v := 1) C dX11_canCompact_33 rfl ?_
      refine r_isub C dX11_canCompact_34 ?_
      refine r_iload_n C dX11_canCompact_35 rfl 2 rfl ?_
      refine r_cvI (rm' := rmX11_fits) C mX11_fits vX11_fits k1300 [aI x3, aI x5, aI (x7 - (1 : Int32)), aI l2] [] rfl rfl (Nat.le_of_ble_eq_true rfl) (by decide) ⟨Nat.zero_le _, Nat.zero_le _⟩ 0 0 rfl rfl dX11_canCompact_36 w (fun x9 h10 w => ?_)
      refine r_if_ne C dX11_canCompact_39 (tgt := 66) rfl (fun hc => ?_) (fun hc => ?_)
      · have w := w.1 hc
        refine r_iconst (v := 1) C dX11_canCompact_66 rfl ?_
        refine r_goto C dX11_canCompact_67 (tgt := 71) rfl ?_
        refine r_istore_n C dX11_canCompact_71 rfl (by decide) rfl ?_
        refine r_iinc C dX11_canCompact_72 2 rfl (v := 1) rfl (by decide) rfl ?_
        refine r_goto C dX11_canCompact_75 (tgt := 4) rfl ?_
        exact r_sub [2, 1, 0] rfl (g4 h10 l0 (1 : Int32) (l2 + (1 : Int32)) w)
      · have w := w.2 hc
        refine r_aload_n C dX11_canCompact_42 rfl 0 rfl ?_
        refine r_iload_n C dX11_canCompact_43 rfl 2 rfl ?_
        refine r_csI (rm' := rmX11_itemShape) C mX11_itemShape vX11_itemShape k1281 [aI l2] [aP l0] rfl rfl (Nat.le_of_ble_eq_true rfl) (by decide) ⟨Nat.zero_le _, Nat.zero_le _⟩ 0 0 rfl rfl dX11_canCompact_44 w (fun x11 h12 w => ?_)
        refine r_aload_n C dX11_canCompact_47 rfl 0 rfl ?_
        refine r_iload_n C dX11_canCompact_48 rfl 2 rfl ?_
        refine r_cvI (rm' := rmX11_itemX) C mX11_itemX vX11_itemX k1284 [aI l2] [aI x11, aP l0] rfl rfl (Nat.le_of_ble_eq_true rfl) (by decide) ⟨Nat.zero_le _, Nat.zero_le _⟩ 0 0 rfl rfl dX11_canCompact_49 w (fun x13 h14 w => ?_)
        refine r_iconst (v := 1) C dX11_canCompact_52 rfl ?_
        refine r_isub C dX11_canCompact_53 ?_
        refine r_aload_n C dX11_canCompact_54 rfl 0 rfl ?_
        refine r_iload_n C dX11_canCompact_55 rfl 2 rfl ?_
        refine r_cvI (rm' := rmX11_itemY) C mX11_itemY vX11_itemY k1288 [aI l2] [aI (x13 - (1 : Int32)), aI x11, aP l0] rfl rfl (Nat.le_of_ble_eq_true rfl) (by decide) ⟨Nat.zero_le _, Nat.zero_le _⟩ 0 0 rfl rfl dX11_canCompact_56 w (fun x15 h16 w => ?_)
        refine r_iload_n C dX11_canCompact_59 rfl 2 rfl ?_
        refine r_cvI (rm' := rmX11_fits) C mX11_fits vX11_fits k1300 [aI x11, aI (x13 - (1 : Int32)), aI x15, aI l2] [] rfl rfl (Nat.le_of_ble_eq_true rfl) (by decide) ⟨Nat.zero_le _, Nat.zero_le _⟩ 0 0 rfl rfl dX11_canCompact_60 w (fun x17 h18 w => ?_)
        refine r_if_eq C dX11_canCompact_63 (tgt := 70) rfl (fun hc => ?_) (fun hc => ?_)
        · have w := w.1 hc
          refine r_iconst (v := 0) C dX11_canCompact_70 rfl ?_
          refine r_istore_n C dX11_canCompact_71 rfl (by decide) rfl ?_
          refine r_iinc C dX11_canCompact_72 2 rfl (v := 1) rfl (by decide) rfl ?_
          refine r_goto C dX11_canCompact_75 (tgt := 4) rfl ?_
          exact r_sub [2, 1, 0] rfl (g4 h18 l0 (0 : Int32) (l2 + (1 : Int32)) w)
        · have w := w.2 hc
          refine r_iconst (v := 1) C dX11_canCompact_66 rfl ?_
          refine r_goto C dX11_canCompact_67 (tgt := 71) rfl ?_
          refine r_istore_n C dX11_canCompact_71 rfl (by decide) rfl ?_
          refine r_iinc C dX11_canCompact_72 2 rfl (v := 1) rfl (by decide) rfl ?_
          refine r_goto C dX11_canCompact_75 (tgt := 4) rfl ?_
          exact r_sub [2, 1, 0] rfl (g4 h18 l0 (1 : Int32) (l2 + (1 : Int32)) w)
theorem lpX11_canCompact_4 {E : EV} {X : AX} {post : Option AV → AH → Prop} (C : Cb E X cX11_canCompact RX11 3 rmX11_canCompact) (D : Cr E X (some .boolean) rmX11_canCompact "canCompact" post) (I : Nat → AH → Option Nat → Int32 → Int32 → Prop) (step : ∀ (z : Nat) (h : AH) (l0 : Option Nat) (l1 : Int32) (l2 : Int32), I z h l0 l1 l2 → PX11_canCompact_4 E post (fun h l0 l1 l2 => ∃ z', z' < z ∧ I z' h l0 l1 l2) h l0 l1 l2) : ∀ (z : Nat) (h : AH) (l0 : Option Nat) (l1 : Int32) (l2 : Int32), I z h l0 l1 l2 → Go E X 3 0 0 4 [(0, aP l0), (1, aI l1), (2, aI l2)] [] h := by
  intro z
  induction z using Nat.strongRecOn with
  | _ z ih =>
    intro h l0 l1 l2 hI
    exact bX11_canCompact_4 C D (fun h l0 l1 l2 hJ => by obtain ⟨z', hz, hi⟩ := hJ; exact ih z' hz h l0 l1 l2 hi) (step z h l0 l1 l2 hI)
def PX11_canCompact_0 (E : EV) (post : Option AV → AH → Prop) (J4 : AH → Option Nat → Int32 → Int32 → Prop) (h : AH) (l0 : Option Nat) : Prop :=
  J4 h l0 (0 : Int32) (0 : Int32)
theorem bX11_canCompact_0 {E : EV} {X : AX} {post : Option AV → AH → Prop} (C : Cb E X cX11_canCompact RX11 3 rmX11_canCompact) (D : Cr E X (some .boolean) rmX11_canCompact "canCompact" post) {J4 : AH → Option Nat → Int32 → Int32 → Prop} (g4 : ∀ (h : AH) (l0 : Option Nat) (l1 : Int32) (l2 : Int32), J4 h l0 l1 l2 → Go E X 3 0 0 4 [(0, aP l0), (1, aI l1), (2, aI l2)] [] h) {h : AH} {l0 : Option Nat} (w : PX11_canCompact_0 E post J4 h l0) : Go E X 3 0 0 0 [(0, aP l0)] [] h := by
  unfold PX11_canCompact_0 at w
  refine r_iconst (v := 0) C dX11_canCompact_0 rfl ?_
  refine r_istore_n C dX11_canCompact_1 rfl (by decide) rfl ?_
  refine r_iconst (v := 0) C dX11_canCompact_2 rfl ?_
  refine r_istore_n C dX11_canCompact_3 rfl (by decide) rfl ?_
  exact r_sub [2, 1, 0] rfl (g4 h l0 (0 : Int32) (0 : Int32) w)
theorem eX11_canCompact {E : EV} {post : Option AV → AH → Prop} {h : AH} {l0 : Option Nat} {J4 : AH → Option Nat → Int32 → Int32 → Prop} (g4 : ∀ X : AX, Cb E X cX11_canCompact RX11 3 rmX11_canCompact → Cr E X (some .boolean) rmX11_canCompact "canCompact" post → ∀ (h : AH) (l0 : Option Nat) (l1 : Int32) (l2 : Int32), J4 h l0 l1 l2 → Go E X 3 0 0 4 [(0, aP l0), (1, aI l1), (2, aI l2)] [] h) (w : PX11_canCompact_0 E post J4 h l0) : sX11_canCompact E [aP l0] h post := Spec.of RX11 rfl rfl (Nat.le_of_ble_eq_true rfl) fun X C D => bX11_canCompact_0 C D (g4 X C D) w
theorem dX11_slotAt_0 : decode cX11_slotAt 0 = .ok (.iconst 4, 1) := by decide +kernel
theorem dX11_slotAt_1 : decode cX11_slotAt 1 = .ok (.bipush 40, 2) := by decide +kernel
theorem dX11_slotAt_3 : decode cX11_slotAt 3 = .ok (.iload_n 0, 1) := by decide +kernel
theorem dX11_slotAt_4 : decode cX11_slotAt 4 = .ok (.imul, 1) := by decide +kernel
theorem dX11_slotAt_5 : decode cX11_slotAt 5 = .ok (.iadd, 1) := by decide +kernel
theorem dX11_slotAt_6 : decode cX11_slotAt 6 = .ok (.ireturn, 1) := by decide +kernel
abbrev rmX11_slotAt : Room := { frames := 0, cells := 0, slots := 0, locals := 0 }
abbrev sX11_slotAt (E : EV) : List AV → AH → (Option AV → AH → Prop) → Prop := Spec E yX11_slotAt cX11_slotAt 1 (some .int) rmX11_slotAt
theorem mX11_slotAt : Mt yX11_slotAt cX11_slotAt 1 (some .int) 1 := ⟨k1102, k12, by decide +kernel⟩
theorem vX11_slotAt : MtS yX11_slotAt := k1101
def PX11_slotAt_0 (E : EV) (post : Option AV → AH → Prop) (h : AH) (l0 : Int32) : Prop :=
  post (some (aI ((4 : Int32) + ((40 : Int32) * l0)))) h
theorem bX11_slotAt_0 {E : EV} {X : AX} {post : Option AV → AH → Prop} (C : Cb E X cX11_slotAt RX11 1 rmX11_slotAt) (D : Cr E X (some .int) rmX11_slotAt "slotAt" post) {h : AH} {l0 : Int32} (w : PX11_slotAt_0 E post h l0) : Go E X 1 0 0 0 [(0, aI l0)] [] h := by
  unfold PX11_slotAt_0 at w
  refine r_iconst (v := 4) C dX11_slotAt_0 rfl ?_
  refine r_bipush (v := 40) C dX11_slotAt_1 rfl ?_
  refine r_iload_n C dX11_slotAt_3 rfl 0 rfl ?_
  refine r_imul C dX11_slotAt_4 ?_
  refine r_iadd C dX11_slotAt_5 ?_
  exact r_iret C D rfl (Nat.zero_le _) (Nat.zero_le _) dX11_slotAt_6 w
theorem eX11_slotAt {E : EV} {post : Option AV → AH → Prop} {h : AH} {l0 : Int32} (w : PX11_slotAt_0 E post h l0) : sX11_slotAt E [aI l0] h post := Spec.of RX11 rfl rfl (Nat.le_of_ble_eq_true rfl) fun X C D => bX11_slotAt_0 C D w
theorem dX11_isEmpty_0 : decode cX11_isEmpty 0 = .ok (.aload_n 0, 1) := by decide +kernel
theorem dX11_isEmpty_1 : decode cX11_isEmpty 1 = .ok (.getfield 7, 3) := by decide +kernel
theorem dX11_isEmpty_4 : decode cX11_isEmpty 4 = .ok (.iload_n 1, 1) := by decide +kernel
theorem dX11_isEmpty_5 : decode cX11_isEmpty 5 = .ok (.invokestatic 50, 3) := by decide +kernel
theorem dX11_isEmpty_8 : decode cX11_isEmpty 8 = .ok (.iaload, 1) := by decide +kernel
theorem dX11_isEmpty_9 : decode cX11_isEmpty 9 = .ok (.ifCond .ne 7, 3) := by decide +kernel
theorem dX11_isEmpty_12 : decode cX11_isEmpty 12 = .ok (.iconst 1, 1) := by decide +kernel
theorem dX11_isEmpty_13 : decode cX11_isEmpty 13 = .ok (.goto 4, 3) := by decide +kernel
theorem dX11_isEmpty_16 : decode cX11_isEmpty 16 = .ok (.iconst 0, 1) := by decide +kernel
theorem dX11_isEmpty_17 : decode cX11_isEmpty 17 = .ok (.ireturn, 1) := by decide +kernel
abbrev rmX11_isEmpty : Room := { frames := 1, cells := 0, slots := 0, locals := 40 }
abbrev sX11_isEmpty (E : EV) : List AV → AH → (Option AV → AH → Prop) → Prop := Spec E yX11_isEmpty cX11_isEmpty 2 (some .boolean) rmX11_isEmpty
theorem mX11_isEmpty : Mt yX11_isEmpty cX11_isEmpty 2 (some .boolean) 1 := ⟨k1114, k12, by decide +kernel⟩
theorem vX11_isEmpty : MtV yX11_isEmpty 11 := ⟨k1113, kp42, by decide, (RX11, TX11, 26), rfl, rfl⟩
def PX11_isEmpty_0 (E : EV) (post : Option AV → AH → Prop) (h : AH) (l0 : Option Nat) (l1 : Int32) : Prop :=
  rdP h l0 11 0 fun x1 => CS (sX11_slotAt E) [aI l1] h (kI fun x2 h3 => aldI h3 x1 0 x2 fun x4 => (¬ x4 = 0 → post (some (aI (0 : Int32))) h3) ∧ (x4 = 0 → post (some (aI (1 : Int32))) h3))
theorem bX11_isEmpty_0 {E : EV} {X : AX} {post : Option AV → AH → Prop} (C : Cb E X cX11_isEmpty RX11 2 rmX11_isEmpty) (D : Cr E X (some .boolean) rmX11_isEmpty "isEmpty" post) {h : AH} {l0 : Option Nat} {l1 : Int32} (w : PX11_isEmpty_0 E post h l0 l1) : Go E X 2 0 0 0 [(0, aP l0), (1, aI l1)] [] h := by
  unfold PX11_isEmpty_0 at w
  refine r_aload_n C dX11_isEmpty_0 rfl 0 rfl ?_
  refine r_getP C fcX11 (f := 0) (by decide) rfl k943 dX11_isEmpty_1 (w.mono fun x1 w => ?_)
  refine r_iload_n C dX11_isEmpty_4 rfl 1 rfl ?_
  refine r_csI (rm' := rmX11_slotAt) C mX11_slotAt vX11_slotAt k1100 [aI l1] [aP x1] rfl rfl (Nat.le_of_ble_eq_true rfl) (by decide) ⟨Nat.zero_le _, Nat.zero_le _⟩ 0 0 rfl rfl dX11_isEmpty_5 w (fun x2 h3 w => ?_)
  refine r_iald C dX11_isEmpty_8 (w.mono fun x4 w => ?_)
  refine r_if_ne C dX11_isEmpty_9 (tgt := 16) rfl (fun hc => ?_) (fun hc => ?_)
  · have w := w.1 hc
    refine r_iconst (v := 0) C dX11_isEmpty_16 rfl ?_
    exact r_zret C D rfl (Or.inl rfl) (Nat.zero_le _) (Nat.zero_le _) dX11_isEmpty_17 w
  · have w := w.2 hc
    refine r_iconst (v := 1) C dX11_isEmpty_12 rfl ?_
    refine r_goto C dX11_isEmpty_13 (tgt := 17) rfl ?_
    exact r_zret C D rfl (Or.inr rfl) (Nat.zero_le _) (Nat.zero_le _) dX11_isEmpty_17 w
theorem eX11_isEmpty {E : EV} {post : Option AV → AH → Prop} {h : AH} {l0 : Option Nat} {l1 : Int32} (w : PX11_isEmpty_0 E post h l0 l1) : sX11_isEmpty E [aP l0, aI l1] h post := Spec.of RX11 rfl rfl (Nat.le_of_ble_eq_true rfl) fun X C D => bX11_isEmpty_0 C D w
theorem dX11_note_0 : decode cX11_note 0 = .ok (.aload_n 0, 1) := by decide +kernel
theorem dX11_note_1 : decode cX11_note 1 = .ok (.getfield 38, 3) := by decide +kernel
theorem dX11_note_4 : decode cX11_note 4 = .ok (.bipush 6, 2) := by decide +kernel
theorem dX11_note_6 : decode cX11_note 6 = .ok (.if_icmp .ne 44, 3) := by decide +kernel
theorem dX11_note_9 : decode cX11_note 9 = .ok (.iconst 0, 1) := by decide +kernel
theorem dX11_note_10 : decode cX11_note 10 = .ok (.istore_n 1, 1) := by decide +kernel
theorem dX11_note_11 : decode cX11_note 11 = .ok (.iload_n 1, 1) := by decide +kernel
theorem dX11_note_12 : decode cX11_note 12 = .ok (.sipush 2500, 3) := by decide +kernel
theorem dX11_note_15 : decode cX11_note 15 = .ok (.if_icmp .ge 25, 3) := by decide +kernel
theorem dX11_note_18 : decode cX11_note 18 = .ok (.aload_n 0, 1) := by decide +kernel
theorem dX11_note_19 : decode cX11_note 19 = .ok (.getfield 13, 3) := by decide +kernel
theorem dX11_note_22 : decode cX11_note 22 = .ok (.iload_n 1, 1) := by decide +kernel
theorem dX11_note_23 : decode cX11_note 23 = .ok (.aload_n 0, 1) := by decide +kernel
theorem dX11_note_24 : decode cX11_note 24 = .ok (.getfield 13, 3) := by decide +kernel
theorem dX11_note_27 : decode cX11_note 27 = .ok (.iload_n 1, 1) := by decide +kernel
theorem dX11_note_28 : decode cX11_note 28 = .ok (.sipush 500, 3) := by decide +kernel
theorem dX11_note_31 : decode cX11_note 31 = .ok (.iadd, 1) := by decide +kernel
theorem dX11_note_32 : decode cX11_note 32 = .ok (.iaload, 1) := by decide +kernel
theorem dX11_note_33 : decode cX11_note 33 = .ok (.iastore, 1) := by decide +kernel
theorem dX11_note_34 : decode cX11_note 34 = .ok (.iinc 1 1, 3) := by decide +kernel
theorem dX11_note_37 : decode cX11_note 37 = .ok (.goto (-26), 3) := by decide +kernel
theorem dX11_note_40 : decode cX11_note 40 = .ok (.aload_n 0, 1) := by decide +kernel
theorem dX11_note_41 : decode cX11_note 41 = .ok (.dup, 1) := by decide +kernel
theorem dX11_note_42 : decode cX11_note 42 = .ok (.getfield 38, 3) := by decide +kernel
theorem dX11_note_45 : decode cX11_note 45 = .ok (.iconst 1, 1) := by decide +kernel
theorem dX11_note_46 : decode cX11_note 46 = .ok (.isub, 1) := by decide +kernel
theorem dX11_note_47 : decode cX11_note 47 = .ok (.putfield 38, 3) := by decide +kernel
theorem dX11_note_50 : decode cX11_note 50 = .ok (.iconst 0, 1) := by decide +kernel
theorem dX11_note_51 : decode cX11_note 51 = .ok (.istore_n 1, 1) := by decide +kernel
theorem dX11_note_52 : decode cX11_note 52 = .ok (.iload_n 1, 1) := by decide +kernel
theorem dX11_note_53 : decode cX11_note 53 = .ok (.sipush 500, 3) := by decide +kernel
theorem dX11_note_56 : decode cX11_note 56 = .ok (.if_icmp .ge 30, 3) := by decide +kernel
theorem dX11_note_59 : decode cX11_note 59 = .ok (.aload_n 0, 1) := by decide +kernel
theorem dX11_note_60 : decode cX11_note 60 = .ok (.getfield 13, 3) := by decide +kernel
theorem dX11_note_63 : decode cX11_note 63 = .ok (.sipush 500, 3) := by decide +kernel
theorem dX11_note_66 : decode cX11_note 66 = .ok (.aload_n 0, 1) := by decide +kernel
theorem dX11_note_67 : decode cX11_note 67 = .ok (.getfield 38, 3) := by decide +kernel
theorem dX11_note_70 : decode cX11_note 70 = .ok (.imul, 1) := by decide +kernel
theorem dX11_note_71 : decode cX11_note 71 = .ok (.iload_n 1, 1) := by decide +kernel
theorem dX11_note_72 : decode cX11_note 72 = .ok (.iadd, 1) := by decide +kernel
theorem dX11_note_73 : decode cX11_note 73 = .ok (.aload_n 0, 1) := by decide +kernel
theorem dX11_note_74 : decode cX11_note 74 = .ok (.getfield 7, 3) := by decide +kernel
theorem dX11_note_77 : decode cX11_note 77 = .ok (.iload_n 1, 1) := by decide +kernel
theorem dX11_note_78 : decode cX11_note 78 = .ok (.iaload, 1) := by decide +kernel
theorem dX11_note_79 : decode cX11_note 79 = .ok (.iastore, 1) := by decide +kernel
theorem dX11_note_80 : decode cX11_note 80 = .ok (.iinc 1 1, 3) := by decide +kernel
theorem dX11_note_83 : decode cX11_note 83 = .ok (.goto (-31), 3) := by decide +kernel
theorem dX11_note_86 : decode cX11_note 86 = .ok (.aload_n 0, 1) := by decide +kernel
theorem dX11_note_87 : decode cX11_note 87 = .ok (.dup, 1) := by decide +kernel
theorem dX11_note_88 : decode cX11_note 88 = .ok (.getfield 38, 3) := by decide +kernel
theorem dX11_note_91 : decode cX11_note 91 = .ok (.iconst 1, 1) := by decide +kernel
theorem dX11_note_92 : decode cX11_note 92 = .ok (.iadd, 1) := by decide +kernel
theorem dX11_note_93 : decode cX11_note 93 = .ok (.putfield 38, 3) := by decide +kernel
theorem dX11_note_96 : decode cX11_note 96 = .ok (.return_, 1) := by decide +kernel
abbrev rmX11_note : Room := { frames := 0, cells := 0, slots := 0, locals := 0 }
abbrev sX11_note (E : EV) : List AV → AH → (Option AV → AH → Prop) → Prop := Spec E yX11_note cX11_note 2 none rmX11_note
theorem mX11_note : Mt yX11_note cX11_note 2 none 0 := ⟨k1099, k12, by decide +kernel⟩
theorem vX11_note : MtV yX11_note 11 := ⟨k1098, kp40, by decide, (RX11, TX11, 26), rfl, rfl⟩
def PX11_note_52 (E : EV) (post : Option AV → AH → Prop) (J52 : AH → Option Nat → Int32 → Prop) (h : AH) (l0 : Option Nat) (l1 : Int32) : Prop :=
  ((500 : Int32) ≤ l1 → rdI h l0 11 2 fun x1 => wr h l0 11 2 (aI (x1 + (1 : Int32))) fun h2 => post none h2) ∧ (¬ (500 : Int32) ≤ l1 → rdP h l0 11 1 fun x1 => rdI h l0 11 2 fun x2 => rdP h l0 11 0 fun x3 => aldI h x3 0 l1 fun x4 => astI h x1 0 (((500 : Int32) * x2) + l1) x4 fun h5 => J52 h5 l0 (l1 + (1 : Int32)))
theorem bX11_note_52 {E : EV} {X : AX} {post : Option AV → AH → Prop} (C : Cb E X cX11_note RX11 2 rmX11_note) (D : Cr E X none rmX11_note "note" post) {J52 : AH → Option Nat → Int32 → Prop} (g52 : ∀ (h : AH) (l0 : Option Nat) (l1 : Int32), J52 h l0 l1 → Go E X 2 0 0 52 [(0, aP l0), (1, aI l1)] [] h) {h : AH} {l0 : Option Nat} {l1 : Int32} (w : PX11_note_52 E post J52 h l0 l1) : Go E X 2 0 0 52 [(0, aP l0), (1, aI l1)] [] h := by
  unfold PX11_note_52 at w
  refine r_iload_n C dX11_note_52 rfl 1 rfl ?_
  refine r_sipush (v := 500) C dX11_note_53 rfl ?_
  refine r_icmp_ge C dX11_note_56 (tgt := 86) rfl (fun hc => ?_) (fun hc => ?_)
  · have w := w.1 hc
    refine r_aload_n C dX11_note_86 rfl 0 rfl ?_
    refine r_dup C dX11_note_87 rfl ?_
    refine r_getI C fcX11 (f := 2) (by decide) rfl k945 dX11_note_88 (w.mono fun x1 w => ?_)
    refine r_iconst (v := 1) C dX11_note_91 rfl ?_
    refine r_iadd C dX11_note_92 ?_
    refine r_put C fcX11 (f := 2) (by decide) rfl rfl rfl rfl k945 dX11_note_93 (w.mono fun h2 w => ?_)
    exact r_vret C D rfl (Nat.zero_le _) (Nat.zero_le _) dX11_note_96 w
  · have w := w.2 hc
    refine r_aload_n C dX11_note_59 rfl 0 rfl ?_
    refine r_getP C fcX11 (f := 1) (by decide) rfl k944 dX11_note_60 (w.mono fun x1 w => ?_)
    refine r_sipush (v := 500) C dX11_note_63 rfl ?_
    refine r_aload_n C dX11_note_66 rfl 0 rfl ?_
    refine r_getI C fcX11 (f := 2) (by decide) rfl k945 dX11_note_67 (w.mono fun x2 w => ?_)
    refine r_imul C dX11_note_70 ?_
    refine r_iload_n C dX11_note_71 rfl 1 rfl ?_
    refine r_iadd C dX11_note_72 ?_
    refine r_aload_n C dX11_note_73 rfl 0 rfl ?_
    refine r_getP C fcX11 (f := 0) (by decide) rfl k943 dX11_note_74 (w.mono fun x3 w => ?_)
    refine r_iload_n C dX11_note_77 rfl 1 rfl ?_
    refine r_iald C dX11_note_78 (w.mono fun x4 w => ?_)
    refine r_iast C dX11_note_79 (w.mono fun h5 w => ?_)
    refine r_iinc C dX11_note_80 1 rfl (v := 1) rfl (by decide) rfl ?_
    refine r_goto C dX11_note_83 (tgt := 52) rfl ?_
    exact r_sub [1, 0] rfl (g52 h5 l0 (l1 + (1 : Int32)) w)
theorem lpX11_note_52 {E : EV} {X : AX} {post : Option AV → AH → Prop} (C : Cb E X cX11_note RX11 2 rmX11_note) (D : Cr E X none rmX11_note "note" post) (I : Nat → AH → Option Nat → Int32 → Prop) (step : ∀ (z : Nat) (h : AH) (l0 : Option Nat) (l1 : Int32), I z h l0 l1 → PX11_note_52 E post (fun h l0 l1 => ∃ z', z' < z ∧ I z' h l0 l1) h l0 l1) : ∀ (z : Nat) (h : AH) (l0 : Option Nat) (l1 : Int32), I z h l0 l1 → Go E X 2 0 0 52 [(0, aP l0), (1, aI l1)] [] h := by
  intro z
  induction z using Nat.strongRecOn with
  | _ z ih =>
    intro h l0 l1 hI
    exact bX11_note_52 C D (fun h l0 l1 hJ => by obtain ⟨z', hz, hi⟩ := hJ; exact ih z' hz h l0 l1 hi) (step z h l0 l1 hI)
def PX11_note_11 (E : EV) (post : Option AV → AH → Prop) (J11 : AH → Option Nat → Int32 → Prop) (J52 : AH → Option Nat → Int32 → Prop) (h : AH) (l0 : Option Nat) (l1 : Int32) : Prop :=
  ((2500 : Int32) ≤ l1 → rdI h l0 11 2 fun x1 => wr h l0 11 2 (aI (x1 - (1 : Int32))) fun h2 => J52 h2 l0 (0 : Int32)) ∧ (¬ (2500 : Int32) ≤ l1 → rdP h l0 11 1 fun x1 => rdP h l0 11 1 fun x2 => aldI h x2 0 (l1 + (500 : Int32)) fun x3 => astI h x1 0 l1 x3 fun h4 => J11 h4 l0 (l1 + (1 : Int32)))
theorem bX11_note_11 {E : EV} {X : AX} {post : Option AV → AH → Prop} (C : Cb E X cX11_note RX11 2 rmX11_note) (D : Cr E X none rmX11_note "note" post) {J11 : AH → Option Nat → Int32 → Prop} (g11 : ∀ (h : AH) (l0 : Option Nat) (l1 : Int32), J11 h l0 l1 → Go E X 2 0 0 11 [(0, aP l0), (1, aI l1)] [] h) {J52 : AH → Option Nat → Int32 → Prop} (g52 : ∀ (h : AH) (l0 : Option Nat) (l1 : Int32), J52 h l0 l1 → Go E X 2 0 0 52 [(0, aP l0), (1, aI l1)] [] h) {h : AH} {l0 : Option Nat} {l1 : Int32} (w : PX11_note_11 E post J11 J52 h l0 l1) : Go E X 2 0 0 11 [(0, aP l0), (1, aI l1)] [] h := by
  unfold PX11_note_11 at w
  refine r_iload_n C dX11_note_11 rfl 1 rfl ?_
  refine r_sipush (v := 2500) C dX11_note_12 rfl ?_
  refine r_icmp_ge C dX11_note_15 (tgt := 40) rfl (fun hc => ?_) (fun hc => ?_)
  · have w := w.1 hc
    refine r_aload_n C dX11_note_40 rfl 0 rfl ?_
    refine r_dup C dX11_note_41 rfl ?_
    refine r_getI C fcX11 (f := 2) (by decide) rfl k945 dX11_note_42 (w.mono fun x1 w => ?_)
    refine r_iconst (v := 1) C dX11_note_45 rfl ?_
    refine r_isub C dX11_note_46 ?_
    refine r_put C fcX11 (f := 2) (by decide) rfl rfl rfl rfl k945 dX11_note_47 (w.mono fun h2 w => ?_)
    refine r_iconst (v := 0) C dX11_note_50 rfl ?_
    refine r_istore_n C dX11_note_51 rfl (by decide) rfl ?_
    exact r_sub [1, 0] rfl (g52 h2 l0 (0 : Int32) w)
  · have w := w.2 hc
    refine r_aload_n C dX11_note_18 rfl 0 rfl ?_
    refine r_getP C fcX11 (f := 1) (by decide) rfl k944 dX11_note_19 (w.mono fun x1 w => ?_)
    refine r_iload_n C dX11_note_22 rfl 1 rfl ?_
    refine r_aload_n C dX11_note_23 rfl 0 rfl ?_
    refine r_getP C fcX11 (f := 1) (by decide) rfl k944 dX11_note_24 (w.mono fun x2 w => ?_)
    refine r_iload_n C dX11_note_27 rfl 1 rfl ?_
    refine r_sipush (v := 500) C dX11_note_28 rfl ?_
    refine r_iadd C dX11_note_31 ?_
    refine r_iald C dX11_note_32 (w.mono fun x3 w => ?_)
    refine r_iast C dX11_note_33 (w.mono fun h4 w => ?_)
    refine r_iinc C dX11_note_34 1 rfl (v := 1) rfl (by decide) rfl ?_
    refine r_goto C dX11_note_37 (tgt := 11) rfl ?_
    exact r_sub [1, 0] rfl (g11 h4 l0 (l1 + (1 : Int32)) w)
theorem lpX11_note_11 {E : EV} {X : AX} {post : Option AV → AH → Prop} (C : Cb E X cX11_note RX11 2 rmX11_note) (D : Cr E X none rmX11_note "note" post) {J52 : AH → Option Nat → Int32 → Prop} (g52 : ∀ (h : AH) (l0 : Option Nat) (l1 : Int32), J52 h l0 l1 → Go E X 2 0 0 52 [(0, aP l0), (1, aI l1)] [] h) (I : Nat → AH → Option Nat → Int32 → Prop) (step : ∀ (z : Nat) (h : AH) (l0 : Option Nat) (l1 : Int32), I z h l0 l1 → PX11_note_11 E post (fun h l0 l1 => ∃ z', z' < z ∧ I z' h l0 l1) J52 h l0 l1) : ∀ (z : Nat) (h : AH) (l0 : Option Nat) (l1 : Int32), I z h l0 l1 → Go E X 2 0 0 11 [(0, aP l0), (1, aI l1)] [] h := by
  intro z
  induction z using Nat.strongRecOn with
  | _ z ih =>
    intro h l0 l1 hI
    exact bX11_note_11 C D (fun h l0 l1 hJ => by obtain ⟨z', hz, hi⟩ := hJ; exact ih z' hz h l0 l1 hi) g52 (step z h l0 l1 hI)
def PX11_note_0 (E : EV) (post : Option AV → AH → Prop) (J11 : AH → Option Nat → Int32 → Prop) (J52 : AH → Option Nat → Int32 → Prop) (h : AH) (l0 : Option Nat) : Prop :=
  rdI h l0 11 2 fun x1 => (¬ x1 = (6 : Int32) → J52 h l0 (0 : Int32)) ∧ (x1 = (6 : Int32) → J11 h l0 (0 : Int32))
theorem bX11_note_0 {E : EV} {X : AX} {post : Option AV → AH → Prop} (C : Cb E X cX11_note RX11 2 rmX11_note) (D : Cr E X none rmX11_note "note" post) {J11 : AH → Option Nat → Int32 → Prop} (g11 : ∀ (h : AH) (l0 : Option Nat) (l1 : Int32), J11 h l0 l1 → Go E X 2 0 0 11 [(0, aP l0), (1, aI l1)] [] h) {J52 : AH → Option Nat → Int32 → Prop} (g52 : ∀ (h : AH) (l0 : Option Nat) (l1 : Int32), J52 h l0 l1 → Go E X 2 0 0 52 [(0, aP l0), (1, aI l1)] [] h) {h : AH} {l0 : Option Nat} (w : PX11_note_0 E post J11 J52 h l0) : Go E X 2 0 0 0 [(0, aP l0)] [] h := by
  unfold PX11_note_0 at w
  refine r_aload_n C dX11_note_0 rfl 0 rfl ?_
  refine r_getI C fcX11 (f := 2) (by decide) rfl k945 dX11_note_1 (w.mono fun x1 w => ?_)
  refine r_bipush (v := 6) C dX11_note_4 rfl ?_
  refine r_icmp_ne C dX11_note_6 (tgt := 50) rfl (fun hc => ?_) (fun hc => ?_)
  · have w := w.1 hc
    refine r_iconst (v := 0) C dX11_note_50 rfl ?_
    refine r_istore_n C dX11_note_51 rfl (by decide) rfl ?_
    exact r_sub [1, 0] rfl (g52 h l0 (0 : Int32) w)
  · have w := w.2 hc
    refine r_iconst (v := 0) C dX11_note_9 rfl ?_
    refine r_istore_n C dX11_note_10 rfl (by decide) rfl ?_
    exact r_sub [1, 0] rfl (g11 h l0 (0 : Int32) w)
theorem eX11_note {E : EV} {post : Option AV → AH → Prop} {h : AH} {l0 : Option Nat} {J11 : AH → Option Nat → Int32 → Prop} (g11 : ∀ X : AX, Cb E X cX11_note RX11 2 rmX11_note → Cr E X none rmX11_note "note" post → ∀ (h : AH) (l0 : Option Nat) (l1 : Int32), J11 h l0 l1 → Go E X 2 0 0 11 [(0, aP l0), (1, aI l1)] [] h) {J52 : AH → Option Nat → Int32 → Prop} (g52 : ∀ X : AX, Cb E X cX11_note RX11 2 rmX11_note → Cr E X none rmX11_note "note" post → ∀ (h : AH) (l0 : Option Nat) (l1 : Int32), J52 h l0 l1 → Go E X 2 0 0 52 [(0, aP l0), (1, aI l1)] [] h) (w : PX11_note_0 E post J11 J52 h l0) : sX11_note E [aP l0] h post := Spec.of RX11 rfl rfl (Nat.le_of_ble_eq_true rfl) fun X C D => bX11_note_0 C D (g11 X C D) (g52 X C D) w
theorem dX11_clearShape_0 : decode cX11_clearShape 0 = .ok (.iload_n 1, 1) := by decide +kernel
theorem dX11_clearShape_1 : decode cX11_clearShape 1 = .ok (.invokestatic 182, 3) := by decide +kernel
theorem dX11_clearShape_4 : decode cX11_clearShape 4 = .ok (.ifCond .ne 6, 3) := by decide +kernel
theorem dX11_clearShape_7 : decode cX11_clearShape 7 = .ok (.ldc 145, 2) := by decide +kernel
theorem dX11_clearShape_9 : decode cX11_clearShape 9 = .ok (.ireturn, 1) := by decide +kernel
theorem dX11_clearShape_10 : decode cX11_clearShape 10 = .ok (.aload_n 0, 1) := by decide +kernel
theorem dX11_clearShape_11 : decode cX11_clearShape 11 = .ok (.iload_n 1, 1) := by decide +kernel
theorem dX11_clearShape_12 : decode cX11_clearShape 12 = .ok (.invokevirtual 195, 3) := by decide +kernel
theorem dX11_clearShape_15 : decode cX11_clearShape 15 = .ok (.ifCond .eq 6, 3) := by decide +kernel
theorem dX11_clearShape_18 : decode cX11_clearShape 18 = .ok (.ldc 42, 2) := by decide +kernel
theorem dX11_clearShape_20 : decode cX11_clearShape 20 = .ok (.ireturn, 1) := by decide +kernel
theorem dX11_clearShape_21 : decode cX11_clearShape 21 = .ok (.aload_n 0, 1) := by decide +kernel
theorem dX11_clearShape_22 : decode cX11_clearShape 22 = .ok (.invokevirtual 188, 3) := by decide +kernel
theorem dX11_clearShape_25 : decode cX11_clearShape 25 = .ok (.aload_n 0, 1) := by decide +kernel
theorem dX11_clearShape_26 : decode cX11_clearShape 26 = .ok (.iload_n 1, 1) := by decide +kernel
theorem dX11_clearShape_27 : decode cX11_clearShape 27 = .ok (.invokestatic 50, 3) := by decide +kernel
theorem dX11_clearShape_30 : decode cX11_clearShape 30 = .ok (.invokevirtual 66, 3) := by decide +kernel
theorem dX11_clearShape_33 : decode cX11_clearShape 33 = .ok (.istore_n 2, 1) := by decide +kernel
theorem dX11_clearShape_34 : decode cX11_clearShape 34 = .ok (.aload_n 0, 1) := by decide +kernel
theorem dX11_clearShape_35 : decode cX11_clearShape 35 = .ok (.getfield 7, 3) := by decide +kernel
theorem dX11_clearShape_38 : decode cX11_clearShape 38 = .ok (.iload_n 1, 1) := by decide +kernel
theorem dX11_clearShape_39 : decode cX11_clearShape 39 = .ok (.invokestatic 50, 3) := by decide +kernel
theorem dX11_clearShape_42 : decode cX11_clearShape 42 = .ok (.iconst 0, 1) := by decide +kernel
theorem dX11_clearShape_43 : decode cX11_clearShape 43 = .ok (.iastore, 1) := by decide +kernel
theorem dX11_clearShape_44 : decode cX11_clearShape 44 = .ok (.iload_n 2, 1) := by decide +kernel
theorem dX11_clearShape_45 : decode cX11_clearShape 45 = .ok (.ireturn, 1) := by decide +kernel
abbrev rmX11_clearShape : Room := { frames := 2, cells := 0, slots := 0, locals := 80 }
abbrev sX11_clearShape (E : EV) : List AV → AH → (Option AV → AH → Prop) → Prop := Spec E yX11_clearShape cX11_clearShape 3 (some .int) rmX11_clearShape
theorem mX11_clearShape : Mt yX11_clearShape cX11_clearShape 3 (some .int) 1 := ⟨k1110, k12, by decide +kernel⟩
theorem vX11_clearShape : MtV yX11_clearShape 11 := ⟨k1108, k1109, by decide, (RX11, TX11, 26), rfl, rfl⟩
def PX11_clearShape_0 (E : EV) (post : Option AV → AH → Prop) (h : AH) (l0 : Option Nat) (l1 : Int32) : Prop :=
  CS (sX11_isSlot E) [aI l1] h (kI fun x1 h2 => (¬ x1 = 0 → CV (sX11_isEmpty E) l0 11 [aI l1] h2 (kI fun x3 h4 => (x3 = 0 → CV (sX11_note E) l0 11 [] h4 (kV fun h6 => CS (sX11_slotAt E) [aI l1] h6 (kI fun x7 h8 => CV (sX11_pieces E) l0 11 [aI x7] h8 (kI fun x9 h10 => rdP h10 l0 11 0 fun x12 => CS (sX11_slotAt E) [aI l1] h10 (kI fun x13 h14 => astI h14 x12 0 x13 (0 : Int32) fun h15 => post (some (aI x9)) h15))))) ∧ (¬ x3 = 0 → post (some (aI (-1000002 : Int32))) h4))) ∧ (x1 = 0 → post (some (aI (-1000001 : Int32))) h2))
theorem bX11_clearShape_0 {E : EV} {X : AX} {post : Option AV → AH → Prop} (C : Cb E X cX11_clearShape RX11 3 rmX11_clearShape) (D : Cr E X (some .int) rmX11_clearShape "clearShape" post) {h : AH} {l0 : Option Nat} {l1 : Int32} (w : PX11_clearShape_0 E post h l0 l1) : Go E X 3 0 0 0 [(0, aP l0), (1, aI l1)] [] h := by
  unfold PX11_clearShape_0 at w
  refine r_iload_n C dX11_clearShape_0 rfl 1 rfl ?_
  refine r_csI (rm' := rmX11_isSlot) C mX11_isSlot vX11_isSlot k1049 [aI l1] [] rfl rfl (Nat.le_of_ble_eq_true rfl) (by decide) ⟨Nat.zero_le _, Nat.zero_le _⟩ 0 0 rfl rfl dX11_clearShape_1 w (fun x1 h2 w => ?_)
  refine r_if_ne C dX11_clearShape_4 (tgt := 10) rfl (fun hc => ?_) (fun hc => ?_)
  · have w := w.1 hc
    refine r_aload_n C dX11_clearShape_10 rfl 0 rfl ?_
    refine r_iload_n C dX11_clearShape_11 rfl 1 rfl ?_
    refine r_cvI (rm' := rmX11_isEmpty) C mX11_isEmpty vX11_isEmpty k1111 [aI l1] [] rfl rfl (Nat.le_of_ble_eq_true rfl) (by decide) ⟨Nat.zero_le _, Nat.zero_le _⟩ 0 0 rfl rfl dX11_clearShape_12 w (fun x3 h4 w => ?_)
    refine r_if_eq C dX11_clearShape_15 (tgt := 21) rfl (fun hc => ?_) (fun hc => ?_)
    · have w := w.1 hc
      refine r_aload_n C dX11_clearShape_21 rfl 0 rfl ?_
      refine r_cvV (rm' := rmX11_note) C mX11_note vX11_note k1096 [] [] rfl rfl (Nat.le_of_ble_eq_true rfl) (by decide) ⟨Nat.zero_le _, Nat.zero_le _⟩ 0 0 rfl rfl dX11_clearShape_22 w (fun h6 w => ?_)
      refine r_aload_n C dX11_clearShape_25 rfl 0 rfl ?_
      refine r_iload_n C dX11_clearShape_26 rfl 1 rfl ?_
      refine r_csI (rm' := rmX11_slotAt) C mX11_slotAt vX11_slotAt k1100 [aI l1] [aP l0] rfl rfl (Nat.le_of_ble_eq_true rfl) (by decide) ⟨Nat.zero_le _, Nat.zero_le _⟩ 0 0 rfl rfl dX11_clearShape_27 w (fun x7 h8 w => ?_)
      refine r_cvI (rm' := rmX11_pieces) C mX11_pieces vX11_pieces k1115 [aI x7] [] rfl rfl (Nat.le_of_ble_eq_true rfl) (by decide) ⟨Nat.zero_le _, Nat.zero_le _⟩ 0 0 rfl rfl dX11_clearShape_30 w (fun x9 h10 w => ?_)
      refine r_istore_n C dX11_clearShape_33 rfl (by decide) rfl ?_
      refine r_aload_n C dX11_clearShape_34 rfl 1 rfl ?_
      refine r_getP C fcX11 (f := 0) (by decide) rfl k943 dX11_clearShape_35 (w.mono fun x12 w => ?_)
      refine r_iload_n C dX11_clearShape_38 rfl 2 rfl ?_
      refine r_csI (rm' := rmX11_slotAt) C mX11_slotAt vX11_slotAt k1100 [aI l1] [aP x12] rfl rfl (Nat.le_of_ble_eq_true rfl) (by decide) ⟨Nat.zero_le _, Nat.zero_le _⟩ 0 0 rfl rfl dX11_clearShape_39 w (fun x13 h14 w => ?_)
      refine r_iconst (v := 0) C dX11_clearShape_42 rfl ?_
      refine r_iast C dX11_clearShape_43 (w.mono fun h15 w => ?_)
      refine r_iload_n C dX11_clearShape_44 rfl 0 rfl ?_
      exact r_iret C D rfl (Nat.zero_le _) (Nat.zero_le _) dX11_clearShape_45 w
    · have w := w.2 hc
      refine r_ldc (v := -1000002) C dX11_clearShape_18 k1027 ?_
      exact r_iret C D rfl (Nat.zero_le _) (Nat.zero_le _) dX11_clearShape_20 w
  · have w := w.2 hc
    refine r_ldc (v := -1000001) C dX11_clearShape_7 k1039 ?_
    exact r_iret C D rfl (Nat.zero_le _) (Nat.zero_le _) dX11_clearShape_9 w
theorem eX11_clearShape {E : EV} {post : Option AV → AH → Prop} {h : AH} {l0 : Option Nat} {l1 : Int32} (w : PX11_clearShape_0 E post h l0 l1) : sX11_clearShape E [aP l0, aI l1] h post := Spec.of RX11 rfl rfl (Nat.le_of_ble_eq_true rfl) fun X C D => bX11_clearShape_0 C D w
theorem dX11_clearText_0 : decode cX11_clearText 0 = .ok (.aload_n 0, 1) := by decide +kernel
theorem dX11_clearText_1 : decode cX11_clearText 1 = .ok (.getfield 146, 3) := by decide +kernel
theorem dX11_clearText_4 : decode cX11_clearText 4 = .ok (.istore_n 1, 1) := by decide +kernel
theorem dX11_clearText_5 : decode cX11_clearText 5 = .ok (.aload_n 0, 1) := by decide +kernel
theorem dX11_clearText_6 : decode cX11_clearText 6 = .ok (.iconst 0, 1) := by decide +kernel
theorem dX11_clearText_7 : decode cX11_clearText 7 = .ok (.putfield 146, 3) := by decide +kernel
theorem dX11_clearText_10 : decode cX11_clearText 10 = .ok (.iload_n 1, 1) := by decide +kernel
theorem dX11_clearText_11 : decode cX11_clearText 11 = .ok (.ireturn, 1) := by decide +kernel
abbrev rmX11_clearText : Room := { frames := 0, cells := 0, slots := 0, locals := 0 }
abbrev sX11_clearText (E : EV) : List AV → AH → (Option AV → AH → Prop) → Prop := Spec E yX11_clearText cX11_clearText 2 (some .int) rmX11_clearText
theorem mX11_clearText : Mt yX11_clearText cX11_clearText 2 (some .int) 0 := ⟨k1044, k12, by decide +kernel⟩
theorem vX11_clearText : MtV yX11_clearText 11 := ⟨k1042, k1043, by decide, (RX11, TX11, 26), rfl, rfl⟩
def PX11_clearText_0 (E : EV) (post : Option AV → AH → Prop) (h : AH) (l0 : Option Nat) : Prop :=
  rdI h l0 11 4 fun x1 => wr h l0 11 4 (aI (0 : Int32)) fun h3 => post (some (aI x1)) h3
theorem bX11_clearText_0 {E : EV} {X : AX} {post : Option AV → AH → Prop} (C : Cb E X cX11_clearText RX11 2 rmX11_clearText) (D : Cr E X (some .int) rmX11_clearText "clearText" post) {h : AH} {l0 : Option Nat} (w : PX11_clearText_0 E post h l0) : Go E X 2 0 0 0 [(0, aP l0)] [] h := by
  unfold PX11_clearText_0 at w
  refine r_aload_n C dX11_clearText_0 rfl 0 rfl ?_
  refine r_getI C fcX11 (f := 4) (by decide) rfl k947 dX11_clearText_1 (w.mono fun x1 w => ?_)
  refine r_istore_n C dX11_clearText_4 rfl (by decide) rfl ?_
  refine r_aload_n C dX11_clearText_5 rfl 1 rfl ?_
  refine r_iconst (v := 0) C dX11_clearText_6 rfl ?_
  refine r_put C fcX11 (f := 4) (by decide) rfl rfl rfl rfl k947 dX11_clearText_7 (w.mono fun h3 w => ?_)
  refine r_iload_n C dX11_clearText_10 rfl 0 rfl ?_
  exact r_iret C D rfl (Nat.zero_le _) (Nat.zero_le _) dX11_clearText_11 w
theorem eX11_clearText {E : EV} {post : Option AV → AH → Prop} {h : AH} {l0 : Option Nat} (w : PX11_clearText_0 E post h l0) : sX11_clearText E [aP l0] h post := Spec.of RX11 rfl rfl (Nat.le_of_ble_eq_true rfl) fun X C D => bX11_clearText_0 C D w
theorem dX11_nears_0 : decode cX11_nears 0 = .ok (.aload_n 0, 1) := by decide +kernel
theorem dX11_nears_1 : decode cX11_nears 1 = .ok (.getfield 107, 3) := by decide +kernel
theorem dX11_nears_4 : decode cX11_nears 4 = .ok (.lconst 0, 1) := by decide +kernel
theorem dX11_nears_5 : decode cX11_nears 5 = .ok (.lcmp, 1) := by decide +kernel
theorem dX11_nears_6 : decode cX11_nears 6 = .ok (.ifCond .eq 19, 3) := by decide +kernel
theorem dX11_nears_9 : decode cX11_nears 9 = .ok (.lload_n 1, 1) := by decide +kernel
theorem dX11_nears_10 : decode cX11_nears 10 = .ok (.aload_n 0, 1) := by decide +kernel
theorem dX11_nears_11 : decode cX11_nears 11 = .ok (.getfield 107, 3) := by decide +kernel
theorem dX11_nears_14 : decode cX11_nears 14 = .ok (.lmul, 1) := by decide +kernel
theorem dX11_nears_15 : decode cX11_nears 15 = .ok (.aload_n 0, 1) := by decide +kernel
theorem dX11_nears_16 : decode cX11_nears 16 = .ok (.getfield 111, 3) := by decide +kernel
theorem dX11_nears_19 : decode cX11_nears 19 = .ok (.lload_n 3, 1) := by decide +kernel
theorem dX11_nears_20 : decode cX11_nears 20 = .ok (.lmul, 1) := by decide +kernel
theorem dX11_nears_21 : decode cX11_nears 21 = .ok (.lcmp, 1) := by decide +kernel
theorem dX11_nears_22 : decode cX11_nears 22 = .ok (.ifCond .ge 13, 3) := by decide +kernel
theorem dX11_nears_25 : decode cX11_nears 25 = .ok (.aload_n 0, 1) := by decide +kernel
theorem dX11_nears_26 : decode cX11_nears 26 = .ok (.lload_n 1, 1) := by decide +kernel
theorem dX11_nears_27 : decode cX11_nears 27 = .ok (.putfield 111, 3) := by decide +kernel
theorem dX11_nears_30 : decode cX11_nears 30 = .ok (.aload_n 0, 1) := by decide +kernel
theorem dX11_nears_31 : decode cX11_nears 31 = .ok (.lload_n 3, 1) := by decide +kernel
theorem dX11_nears_32 : decode cX11_nears 32 = .ok (.putfield 107, 3) := by decide +kernel
theorem dX11_nears_35 : decode cX11_nears 35 = .ok (.return_, 1) := by decide +kernel
abbrev rmX11_nears : Room := { frames := 0, cells := 0, slots := 0, locals := 0 }
abbrev sX11_nears (E : EV) : List AV → AH → (Option AV → AH → Prop) → Prop := Spec E yX11_nears cX11_nears 5 none rmX11_nears
theorem mX11_nears : Mt yX11_nears cX11_nears 5 none 2 := ⟨k1256, k12, by decide +kernel⟩
theorem vX11_nears : MtV yX11_nears 11 := ⟨k1255, kp63, by decide, (RX11, TX11, 26), rfl, rfl⟩
def PX11_nears_25 (E : EV) (post : Option AV → AH → Prop) (h : AH) (l0 : Option Nat) (l1 : Int64) (l3 : Int64) : Prop :=
  wr h l0 11 7 (aJ l1) fun h1 => wr h1 l0 11 8 (aJ l3) fun h2 => post none h2
theorem bX11_nears_25 {E : EV} {X : AX} {post : Option AV → AH → Prop} (C : Cb E X cX11_nears RX11 5 rmX11_nears) (D : Cr E X none rmX11_nears "nears" post) {h : AH} {l0 : Option Nat} {l1 : Int64} {l3 : Int64} (w : PX11_nears_25 E post h l0 l1 l3) : Go E X 5 0 0 25 [(0, aP l0), (1, aJ l1), (3, aJ l3)] [] h := by
  unfold PX11_nears_25 at w
  refine r_aload_n C dX11_nears_25 rfl 0 rfl ?_
  refine r_lload_n C dX11_nears_26 rfl 1 rfl ?_
  refine r_put C fcX11 (f := 7) (by decide) rfl rfl rfl rfl k950 dX11_nears_27 (w.mono fun h1 w => ?_)
  refine r_aload_n C dX11_nears_30 rfl 0 rfl ?_
  refine r_lload_n C dX11_nears_31 rfl 2 rfl ?_
  refine r_put C fcX11 (f := 8) (by decide) rfl rfl rfl rfl k951 dX11_nears_32 (w.mono fun h2 w => ?_)
  exact r_vret C D rfl (Nat.zero_le _) (Nat.zero_le _) dX11_nears_35 w
def PX11_nears_0 (E : EV) (post : Option AV → AH → Prop) (h : AH) (l0 : Option Nat) (l1 : Int64) (l3 : Int64) : Prop :=
  rdJ h l0 11 8 fun x1 => ((lg_cmp x1 (0 : Int64)) = 0 → PX11_nears_25 E post h l0 l1 l3) ∧ (¬ (lg_cmp x1 (0 : Int64)) = 0 → rdJ h l0 11 8 fun x2 => rdJ h l0 11 7 fun x3 => (0 ≤ (lg_cmp (l1 * x2) (x3 * l3)) → post none h) ∧ (¬ 0 ≤ (lg_cmp (l1 * x2) (x3 * l3)) → PX11_nears_25 E post h l0 l1 l3))
theorem bX11_nears_0 {E : EV} {X : AX} {post : Option AV → AH → Prop} (C : Cb E X cX11_nears RX11 5 rmX11_nears) (D : Cr E X none rmX11_nears "nears" post) {h : AH} {l0 : Option Nat} {l1 : Int64} {l3 : Int64} (w : PX11_nears_0 E post h l0 l1 l3) : Go E X 5 0 0 0 [(0, aP l0), (1, aJ l1), (3, aJ l3)] [] h := by
  unfold PX11_nears_0 at w
  refine r_aload_n C dX11_nears_0 rfl 0 rfl ?_
  refine r_getJ C fcX11 (f := 8) (by decide) rfl k951 dX11_nears_1 (w.mono fun x1 w => ?_)
  refine r_lconst (v := 0) C dX11_nears_4 rfl ?_
  refine r_lcmp C dX11_nears_5 ?_
  refine r_if_eq C dX11_nears_6 (tgt := 25) rfl (fun hc => ?_) (fun hc => ?_)
  · have w := w.1 hc
    exact (bX11_nears_25 C D w)
  · have w := w.2 hc
    refine r_lload_n C dX11_nears_9 rfl 1 rfl ?_
    refine r_aload_n C dX11_nears_10 rfl 0 rfl ?_
    refine r_getJ C fcX11 (f := 8) (by decide) rfl k951 dX11_nears_11 (w.mono fun x2 w => ?_)
    refine r_lmul C dX11_nears_14 ?_
    refine r_aload_n C dX11_nears_15 rfl 0 rfl ?_
    refine r_getJ C fcX11 (f := 7) (by decide) rfl k950 dX11_nears_16 (w.mono fun x3 w => ?_)
    refine r_lload_n C dX11_nears_19 rfl 2 rfl ?_
    refine r_lmul C dX11_nears_20 ?_
    refine r_lcmp C dX11_nears_21 ?_
    refine r_if_ge C dX11_nears_22 (tgt := 35) rfl (fun hc => ?_) (fun hc => ?_)
    · have w := w.1 hc
      exact r_vret C D rfl (Nat.zero_le _) (Nat.zero_le _) dX11_nears_35 w
    · have w := w.2 hc
      exact (bX11_nears_25 C D w)
theorem eX11_nears {E : EV} {post : Option AV → AH → Prop} {h : AH} {l0 : Option Nat} {l1 : Int64} {l3 : Int64} (w : PX11_nears_0 E post h l0 l1 l3) : sX11_nears E [aP l0, aJ l1, aJ l3] h post := Spec.of RX11 rfl rfl (Nat.le_of_ble_eq_true rfl) fun X C D => bX11_nears_0 C D w
theorem dX11_nearsSides_0 : decode cX11_nearsSides 0 = .ok (.iconst 0, 1) := by decide +kernel
theorem dX11_nearsSides_1 : decode cX11_nearsSides 1 = .ok (.istore 7, 2) := by decide +kernel
theorem dX11_nearsSides_3 : decode cX11_nearsSides 3 = .ok (.iload 7, 2) := by decide +kernel
theorem dX11_nearsSides_5 : decode cX11_nearsSides 5 = .ok (.aload_n 0, 1) := by decide +kernel
theorem dX11_nearsSides_6 : decode cX11_nearsSides 6 = .ok (.iload_n 1, 1) := by decide +kernel
theorem dX11_nearsSides_7 : decode cX11_nearsSides 7 = .ok (.iload_n 2, 1) := by decide +kernel
theorem dX11_nearsSides_8 : decode cX11_nearsSides 8 = .ok (.invokevirtual 54, 3) := by decide +kernel
theorem dX11_nearsSides_11 : decode cX11_nearsSides 11 = .ok (.if_icmp .ge 210, 3) := by decide +kernel
theorem dX11_nearsSides_14 : decode cX11_nearsSides 14 = .ok (.iconst 0, 1) := by decide +kernel
theorem dX11_nearsSides_15 : decode cX11_nearsSides 15 = .ok (.istore 8, 2) := by decide +kernel
theorem dX11_nearsSides_17 : decode cX11_nearsSides 17 = .ok (.iload 8, 2) := by decide +kernel
theorem dX11_nearsSides_19 : decode cX11_nearsSides 19 = .ok (.aload_n 0, 1) := by decide +kernel
theorem dX11_nearsSides_20 : decode cX11_nearsSides 20 = .ok (.iload_n 3, 1) := by decide +kernel
theorem dX11_nearsSides_21 : decode cX11_nearsSides 21 = .ok (.iload 4, 2) := by decide +kernel
theorem dX11_nearsSides_23 : decode cX11_nearsSides 23 = .ok (.invokevirtual 54, 3) := by decide +kernel
theorem dX11_nearsSides_26 : decode cX11_nearsSides 26 = .ok (.if_icmp .ge 189, 3) := by decide +kernel
theorem dX11_nearsSides_29 : decode cX11_nearsSides 29 = .ok (.aload_n 0, 1) := by decide +kernel
theorem dX11_nearsSides_30 : decode cX11_nearsSides 30 = .ok (.iload_n 3, 1) := by decide +kernel
theorem dX11_nearsSides_31 : decode cX11_nearsSides 31 = .ok (.iload 4, 2) := by decide +kernel
theorem dX11_nearsSides_33 : decode cX11_nearsSides 33 = .ok (.iload 8, 2) := by decide +kernel
theorem dX11_nearsSides_35 : decode cX11_nearsSides 35 = .ok (.iconst 1, 1) := by decide +kernel
theorem dX11_nearsSides_36 : decode cX11_nearsSides 36 = .ok (.iadd, 1) := by decide +kernel
theorem dX11_nearsSides_37 : decode cX11_nearsSides 37 = .ok (.invokevirtual 58, 3) := by decide +kernel
theorem dX11_nearsSides_40 : decode cX11_nearsSides 40 = .ok (.aload_n 0, 1) := by decide +kernel
theorem dX11_nearsSides_41 : decode cX11_nearsSides 41 = .ok (.iload_n 3, 1) := by decide +kernel
theorem dX11_nearsSides_42 : decode cX11_nearsSides 42 = .ok (.iload 4, 2) := by decide +kernel
theorem dX11_nearsSides_44 : decode cX11_nearsSides 44 = .ok (.iload 8, 2) := by decide +kernel
theorem dX11_nearsSides_46 : decode cX11_nearsSides 46 = .ok (.invokevirtual 58, 3) := by decide +kernel
theorem dX11_nearsSides_49 : decode cX11_nearsSides 49 = .ok (.isub, 1) := by decide +kernel
theorem dX11_nearsSides_50 : decode cX11_nearsSides 50 = .ok (.i2l, 1) := by decide +kernel
theorem dX11_nearsSides_51 : decode cX11_nearsSides 51 = .ok (.lstore 9, 2) := by decide +kernel
theorem dX11_nearsSides_53 : decode cX11_nearsSides 53 = .ok (.aload_n 0, 1) := by decide +kernel
theorem dX11_nearsSides_54 : decode cX11_nearsSides 54 = .ok (.iload_n 3, 1) := by decide +kernel
theorem dX11_nearsSides_55 : decode cX11_nearsSides 55 = .ok (.iload 4, 2) := by decide +kernel
theorem dX11_nearsSides_57 : decode cX11_nearsSides 57 = .ok (.iload 8, 2) := by decide +kernel
theorem dX11_nearsSides_59 : decode cX11_nearsSides 59 = .ok (.iconst 1, 1) := by decide +kernel
theorem dX11_nearsSides_60 : decode cX11_nearsSides 60 = .ok (.iadd, 1) := by decide +kernel
theorem dX11_nearsSides_61 : decode cX11_nearsSides 61 = .ok (.invokevirtual 62, 3) := by decide +kernel
theorem dX11_nearsSides_64 : decode cX11_nearsSides 64 = .ok (.aload_n 0, 1) := by decide +kernel
theorem dX11_nearsSides_65 : decode cX11_nearsSides 65 = .ok (.iload_n 3, 1) := by decide +kernel
theorem dX11_nearsSides_66 : decode cX11_nearsSides 66 = .ok (.iload 4, 2) := by decide +kernel
theorem dX11_nearsSides_68 : decode cX11_nearsSides 68 = .ok (.iload 8, 2) := by decide +kernel
theorem dX11_nearsSides_70 : decode cX11_nearsSides 70 = .ok (.invokevirtual 62, 3) := by decide +kernel
theorem dX11_nearsSides_73 : decode cX11_nearsSides 73 = .ok (.isub, 1) := by decide +kernel
theorem dX11_nearsSides_74 : decode cX11_nearsSides 74 = .ok (.i2l, 1) := by decide +kernel
theorem dX11_nearsSides_75 : decode cX11_nearsSides 75 = .ok (.lstore 11, 2) := by decide +kernel
theorem dX11_nearsSides_77 : decode cX11_nearsSides 77 = .ok (.aload_n 0, 1) := by decide +kernel
theorem dX11_nearsSides_78 : decode cX11_nearsSides 78 = .ok (.iload_n 1, 1) := by decide +kernel
theorem dX11_nearsSides_79 : decode cX11_nearsSides 79 = .ok (.iload_n 2, 1) := by decide +kernel
theorem dX11_nearsSides_80 : decode cX11_nearsSides 80 = .ok (.iload 7, 2) := by decide +kernel
theorem dX11_nearsSides_82 : decode cX11_nearsSides 82 = .ok (.invokevirtual 58, 3) := by decide +kernel
theorem dX11_nearsSides_85 : decode cX11_nearsSides 85 = .ok (.aload_n 0, 1) := by decide +kernel
theorem dX11_nearsSides_86 : decode cX11_nearsSides 86 = .ok (.iload_n 3, 1) := by decide +kernel
theorem dX11_nearsSides_87 : decode cX11_nearsSides 87 = .ok (.iload 4, 2) := by decide +kernel
theorem dX11_nearsSides_89 : decode cX11_nearsSides 89 = .ok (.iload 8, 2) := by decide +kernel
theorem dX11_nearsSides_91 : decode cX11_nearsSides 91 = .ok (.invokevirtual 58, 3) := by decide +kernel
theorem dX11_nearsSides_94 : decode cX11_nearsSides 94 = .ok (.isub, 1) := by decide +kernel
theorem dX11_nearsSides_95 : decode cX11_nearsSides 95 = .ok (.iload 5, 2) := by decide +kernel
theorem dX11_nearsSides_97 : decode cX11_nearsSides 97 = .ok (.isub, 1) := by decide +kernel
theorem dX11_nearsSides_98 : decode cX11_nearsSides 98 = .ok (.i2l, 1) := by decide +kernel
theorem dX11_nearsSides_99 : decode cX11_nearsSides 99 = .ok (.lstore 13, 2) := by decide +kernel
theorem dX11_nearsSides_101 : decode cX11_nearsSides 101 = .ok (.aload_n 0, 1) := by decide +kernel
theorem dX11_nearsSides_102 : decode cX11_nearsSides 102 = .ok (.iload_n 1, 1) := by decide +kernel
theorem dX11_nearsSides_103 : decode cX11_nearsSides 103 = .ok (.iload_n 2, 1) := by decide +kernel
theorem dX11_nearsSides_104 : decode cX11_nearsSides 104 = .ok (.iload 7, 2) := by decide +kernel
theorem dX11_nearsSides_106 : decode cX11_nearsSides 106 = .ok (.invokevirtual 62, 3) := by decide +kernel
theorem dX11_nearsSides_109 : decode cX11_nearsSides 109 = .ok (.aload_n 0, 1) := by decide +kernel
theorem dX11_nearsSides_110 : decode cX11_nearsSides 110 = .ok (.iload_n 3, 1) := by decide +kernel
theorem dX11_nearsSides_111 : decode cX11_nearsSides 111 = .ok (.iload 4, 2) := by decide +kernel
theorem dX11_nearsSides_113 : decode cX11_nearsSides 113 = .ok (.iload 8, 2) := by decide +kernel
theorem dX11_nearsSides_115 : decode cX11_nearsSides 115 = .ok (.invokevirtual 62, 3) := by decide +kernel
theorem dX11_nearsSides_118 : decode cX11_nearsSides 118 = .ok (.isub, 1) := by decide +kernel
theorem dX11_nearsSides_119 : decode cX11_nearsSides 119 = .ok (.iload 6, 2) := by decide +kernel
theorem dX11_nearsSides_121 : decode cX11_nearsSides 121 = .ok (.isub, 1) := by decide +kernel
theorem dX11_nearsSides_122 : decode cX11_nearsSides 122 = .ok (.i2l, 1) := by decide +kernel
theorem dX11_nearsSides_123 : decode cX11_nearsSides 123 = .ok (.lstore 15, 2) := by decide +kernel
theorem dX11_nearsSides_125 : decode cX11_nearsSides 125 = .ok (.lload 13, 2) := by decide +kernel
theorem dX11_nearsSides_127 : decode cX11_nearsSides 127 = .ok (.lload 9, 2) := by decide +kernel
theorem dX11_nearsSides_129 : decode cX11_nearsSides 129 = .ok (.lmul, 1) := by decide +kernel
theorem dX11_nearsSides_130 : decode cX11_nearsSides 130 = .ok (.lload 15, 2) := by decide +kernel
theorem dX11_nearsSides_132 : decode cX11_nearsSides 132 = .ok (.lload 11, 2) := by decide +kernel
theorem dX11_nearsSides_134 : decode cX11_nearsSides 134 = .ok (.lmul, 1) := by decide +kernel
theorem dX11_nearsSides_135 : decode cX11_nearsSides 135 = .ok (.ladd, 1) := by decide +kernel
theorem dX11_nearsSides_136 : decode cX11_nearsSides 136 = .ok (.lstore 17, 2) := by decide +kernel
theorem dX11_nearsSides_138 : decode cX11_nearsSides 138 = .ok (.lload 9, 2) := by decide +kernel
theorem dX11_nearsSides_140 : decode cX11_nearsSides 140 = .ok (.lload 9, 2) := by decide +kernel
theorem dX11_nearsSides_142 : decode cX11_nearsSides 142 = .ok (.lmul, 1) := by decide +kernel
theorem dX11_nearsSides_143 : decode cX11_nearsSides 143 = .ok (.lload 11, 2) := by decide +kernel
theorem dX11_nearsSides_145 : decode cX11_nearsSides 145 = .ok (.lload 11, 2) := by decide +kernel
theorem dX11_nearsSides_147 : decode cX11_nearsSides 147 = .ok (.lmul, 1) := by decide +kernel
theorem dX11_nearsSides_148 : decode cX11_nearsSides 148 = .ok (.ladd, 1) := by decide +kernel
theorem dX11_nearsSides_149 : decode cX11_nearsSides 149 = .ok (.lstore 19, 2) := by decide +kernel
theorem dX11_nearsSides_151 : decode cX11_nearsSides 151 = .ok (.lload 13, 2) := by decide +kernel
theorem dX11_nearsSides_153 : decode cX11_nearsSides 153 = .ok (.lload 11, 2) := by decide +kernel
theorem dX11_nearsSides_155 : decode cX11_nearsSides 155 = .ok (.lmul, 1) := by decide +kernel
theorem dX11_nearsSides_156 : decode cX11_nearsSides 156 = .ok (.lload 15, 2) := by decide +kernel
theorem dX11_nearsSides_158 : decode cX11_nearsSides 158 = .ok (.lload 9, 2) := by decide +kernel
theorem dX11_nearsSides_160 : decode cX11_nearsSides 160 = .ok (.lmul, 1) := by decide +kernel
theorem dX11_nearsSides_161 : decode cX11_nearsSides 161 = .ok (.lsub, 1) := by decide +kernel
theorem dX11_nearsSides_162 : decode cX11_nearsSides 162 = .ok (.lstore 21, 2) := by decide +kernel
theorem dX11_nearsSides_164 : decode cX11_nearsSides 164 = .ok (.lload 17, 2) := by decide +kernel
theorem dX11_nearsSides_166 : decode cX11_nearsSides 166 = .ok (.lconst 0, 1) := by decide +kernel
theorem dX11_nearsSides_167 : decode cX11_nearsSides 167 = .ok (.lcmp, 1) := by decide +kernel
theorem dX11_nearsSides_168 : decode cX11_nearsSides 168 = .ok (.ifCond .le 25, 3) := by decide +kernel
theorem dX11_nearsSides_171 : decode cX11_nearsSides 171 = .ok (.lload 17, 2) := by decide +kernel
theorem dX11_nearsSides_173 : decode cX11_nearsSides 173 = .ok (.lload 19, 2) := by decide +kernel
theorem dX11_nearsSides_175 : decode cX11_nearsSides 175 = .ok (.lcmp, 1) := by decide +kernel
theorem dX11_nearsSides_176 : decode cX11_nearsSides 176 = .ok (.ifCond .ge 17, 3) := by decide +kernel
theorem dX11_nearsSides_179 : decode cX11_nearsSides 179 = .ok (.aload_n 0, 1) := by decide +kernel
theorem dX11_nearsSides_180 : decode cX11_nearsSides 180 = .ok (.lload 21, 2) := by decide +kernel
theorem dX11_nearsSides_182 : decode cX11_nearsSides 182 = .ok (.lload 21, 2) := by decide +kernel
theorem dX11_nearsSides_184 : decode cX11_nearsSides 184 = .ok (.lmul, 1) := by decide +kernel
theorem dX11_nearsSides_185 : decode cX11_nearsSides 185 = .ok (.lload 19, 2) := by decide +kernel
theorem dX11_nearsSides_187 : decode cX11_nearsSides 187 = .ok (.invokevirtual 114, 3) := by decide +kernel
theorem dX11_nearsSides_190 : decode cX11_nearsSides 190 = .ok (.goto 19, 3) := by decide +kernel
theorem dX11_nearsSides_193 : decode cX11_nearsSides 193 = .ok (.aload_n 0, 1) := by decide +kernel
theorem dX11_nearsSides_194 : decode cX11_nearsSides 194 = .ok (.lload 13, 2) := by decide +kernel
theorem dX11_nearsSides_196 : decode cX11_nearsSides 196 = .ok (.lload 13, 2) := by decide +kernel
theorem dX11_nearsSides_198 : decode cX11_nearsSides 198 = .ok (.lmul, 1) := by decide +kernel
theorem dX11_nearsSides_199 : decode cX11_nearsSides 199 = .ok (.lload 15, 2) := by decide +kernel
theorem dX11_nearsSides_201 : decode cX11_nearsSides 201 = .ok (.lload 15, 2) := by decide +kernel
theorem dX11_nearsSides_203 : decode cX11_nearsSides 203 = .ok (.lmul, 1) := by decide +kernel
theorem dX11_nearsSides_204 : decode cX11_nearsSides 204 = .ok (.ladd, 1) := by decide +kernel
theorem dX11_nearsSides_205 : decode cX11_nearsSides 205 = .ok (.lconst 1, 1) := by decide +kernel
theorem dX11_nearsSides_206 : decode cX11_nearsSides 206 = .ok (.invokevirtual 114, 3) := by decide +kernel
theorem dX11_nearsSides_209 : decode cX11_nearsSides 209 = .ok (.iinc 8 1, 3) := by decide +kernel
theorem dX11_nearsSides_212 : decode cX11_nearsSides 212 = .ok (.goto (-195), 3) := by decide +kernel
theorem dX11_nearsSides_215 : decode cX11_nearsSides 215 = .ok (.iinc 7 1, 3) := by decide +kernel
theorem dX11_nearsSides_218 : decode cX11_nearsSides 218 = .ok (.goto (-215), 3) := by decide +kernel
theorem dX11_nearsSides_221 : decode cX11_nearsSides 221 = .ok (.return_, 1) := by decide +kernel
abbrev rmX11_nearsSides : Room := { frames := 1, cells := 0, slots := 0, locals := 40 }
abbrev sX11_nearsSides (E : EV) : List AV → AH → (Option AV → AH → Prop) → Prop := Spec E yX11_nearsSides cX11_nearsSides 23 none rmX11_nearsSides
theorem mX11_nearsSides : Mt yX11_nearsSides cX11_nearsSides 23 none 6 := ⟨k1252, k12, by decide +kernel⟩
theorem vX11_nearsSides : MtV yX11_nearsSides 11 := ⟨k1251, kp62, by decide, (RX11, TX11, 26), rfl, rfl⟩
def PX11_nearsSides_193 (E : EV) (post : Option AV → AH → Prop) (J17 : AH → Option Nat → Int32 → Int32 → Int32 → Int32 → Int32 → Int32 → Int32 → Int32 → Prop) (h : AH) (l0 : Option Nat) (l1 : Int32) (l2 : Int32) (l3 : Int32) (l4 : Int32) (l5 : Int32) (l6 : Int32) (l7 : Int32) (l8 : Int32) (l13 : Int64) (l15 : Int64) : Prop :=
  CV (sX11_nears E) l0 11 [aJ ((l13 * l13) + (l15 * l15)), aJ (1 : Int64)] h (kV fun h2 => J17 h2 l0 l1 l2 l3 l4 l5 l6 l7 (l8 + (1 : Int32)))
theorem bX11_nearsSides_193 {E : EV} {X : AX} {post : Option AV → AH → Prop} (C : Cb E X cX11_nearsSides RX11 23 rmX11_nearsSides) (D : Cr E X none rmX11_nearsSides "nearsSides" post) {J17 : AH → Option Nat → Int32 → Int32 → Int32 → Int32 → Int32 → Int32 → Int32 → Int32 → Prop} (g17 : ∀ (h : AH) (l0 : Option Nat) (l1 : Int32) (l2 : Int32) (l3 : Int32) (l4 : Int32) (l5 : Int32) (l6 : Int32) (l7 : Int32) (l8 : Int32), J17 h l0 l1 l2 l3 l4 l5 l6 l7 l8 → Go E X 23 0 0 17 [(0, aP l0), (1, aI l1), (2, aI l2), (3, aI l3), (4, aI l4), (5, aI l5), (6, aI l6), (7, aI l7), (8, aI l8)] [] h) {h : AH} {l0 : Option Nat} {l1 : Int32} {l2 : Int32} {l3 : Int32} {l4 : Int32} {l5 : Int32} {l6 : Int32} {l7 : Int32} {l8 : Int32} {l13 : Int64} {l15 : Int64} (w : PX11_nearsSides_193 E post J17 h l0 l1 l2 l3 l4 l5 l6 l7 l8 l13 l15) : Go E X 23 0 0 193 [(0, aP l0), (1, aI l1), (2, aI l2), (3, aI l3), (4, aI l4), (5, aI l5), (6, aI l6), (7, aI l7), (8, aI l8), (13, aJ l13), (15, aJ l15)] [] h := by
  unfold PX11_nearsSides_193 at w
  refine r_aload_n C dX11_nearsSides_193 rfl 0 rfl ?_
  refine r_lload C dX11_nearsSides_194 9 rfl ?_
  refine r_lload C dX11_nearsSides_196 9 rfl ?_
  refine r_lmul C dX11_nearsSides_198 ?_
  refine r_lload C dX11_nearsSides_199 10 rfl ?_
  refine r_lload C dX11_nearsSides_201 10 rfl ?_
  refine r_lmul C dX11_nearsSides_203 ?_
  refine r_ladd C dX11_nearsSides_204 ?_
  refine r_lconst (v := 1) C dX11_nearsSides_205 rfl ?_
  refine r_cvV (rm' := rmX11_nears) C mX11_nears vX11_nears k1253 [aJ ((l13 * l13) + (l15 * l15)), aJ (1 : Int64)] [] rfl rfl (Nat.le_of_ble_eq_true rfl) (by decide) ⟨Nat.zero_le _, Nat.zero_le _⟩ 0 0 rfl rfl dX11_nearsSides_206 w (fun h2 w => ?_)
  refine r_iinc C dX11_nearsSides_209 8 rfl (v := 1) rfl (by decide) rfl ?_
  refine r_goto C dX11_nearsSides_212 (tgt := 17) rfl ?_
  exact r_sub [1, 2, 3, 4, 5, 6, 7, 8, 0] rfl (g17 h2 l0 l1 l2 l3 l4 l5 l6 l7 (l8 + (1 : Int32)) w)
def PX11_nearsSides_17 (E : EV) (post : Option AV → AH → Prop) (J3 : AH → Option Nat → Int32 → Int32 → Int32 → Int32 → Int32 → Int32 → Int32 → Prop) (J17 : AH → Option Nat → Int32 → Int32 → Int32 → Int32 → Int32 → Int32 → Int32 → Int32 → Prop) (h : AH) (l0 : Option Nat) (l1 : Int32) (l2 : Int32) (l3 : Int32) (l4 : Int32) (l5 : Int32) (l6 : Int32) (l7 : Int32) (l8 : Int32) : Prop :=
  CV (sX11_vertices E) l0 11 [aI l3, aI l4] h (kI fun x1 h2 => (x1 ≤ l8 → J3 h2 l0 l1 l2 l3 l4 l5 l6 (l7 + (1 : Int32))) ∧ (¬ x1 ≤ l8 → CV (sX11_xOf E) l0 11 [aI l3, aI l4, aI (l8 + (1 : Int32))] h2 (kI fun x3 h4 => CV (sX11_xOf E) l0 11 [aI l3, aI l4, aI l8] h4 (kI fun x5 h6 => ∀ v7, v7 = (x3 - x5).toInt64 → CV (sX11_yOf E) l0 11 [aI l3, aI l4, aI (l8 + (1 : Int32))] h6 (kI fun x8 h9 => CV (sX11_yOf E) l0 11 [aI l3, aI l4, aI l8] h9 (kI fun x10 h11 => ∀ v12, v12 = (x8 - x10).toInt64 → CV (sX11_xOf E) l0 11 [aI l1, aI l2, aI l7] h11 (kI fun x13 h14 => CV (sX11_xOf E) l0 11 [aI l3, aI l4, aI l8] h14 (kI fun x15 h16 => ∀ v17, v17 = ((x13 - x15) - l5).toInt64 → CV (sX11_yOf E) l0 11 [aI l1, aI l2, aI l7] h16 (kI fun x18 h19 => CV (sX11_yOf E) l0 11 [aI l3, aI l4, aI l8] h19 (kI fun x20 h21 => ∀ v22, v22 = ((x18 - x20) - l6).toInt64 → ∀ v23, v23 = ((v17 * v7) + (v22 * v12)) → ∀ v24, v24 = ((v7 * v7) + (v12 * v12)) → ∀ v25, v25 = ((v17 * v12) - (v22 * v7)) → ((lg_cmp v23 (0 : Int64)) ≤ 0 → PX11_nearsSides_193 E post J17 h21 l0 l1 l2 l3 l4 l5 l6 l7 l8 v17 v22) ∧ (¬ (lg_cmp v23 (0 : Int64)) ≤ 0 → (0 ≤ (lg_cmp v23 v24) → PX11_nearsSides_193 E post J17 h21 l0 l1 l2 l3 l4 l5 l6 l7 l8 v17 v22) ∧ (¬ 0 ≤ (lg_cmp v23 v24) → CV (sX11_nears E) l0 11 [aJ (v25 * v25), aJ v24] h21 (kV fun h27 => J17 h27 l0 l1 l2 l3 l4 l5 l6 l7 (l8 + (1 : Int32)))))))))))))))
theorem bX11_nearsSides_17 {E : EV} {X : AX} {post : Option AV → AH → Prop} (C : Cb E X cX11_nearsSides RX11 23 rmX11_nearsSides) (D : Cr E X none rmX11_nearsSides "nearsSides" post) {J3 : AH → Option Nat → Int32 → Int32 → Int32 → Int32 → Int32 → Int32 → Int32 → Prop} (g3 : ∀ (h : AH) (l0 : Option Nat) (l1 : Int32) (l2 : Int32) (l3 : Int32) (l4 : Int32) (l5 : Int32) (l6 : Int32) (l7 : Int32), J3 h l0 l1 l2 l3 l4 l5 l6 l7 → Go E X 23 0 0 3 [(0, aP l0), (1, aI l1), (2, aI l2), (3, aI l3), (4, aI l4), (5, aI l5), (6, aI l6), (7, aI l7)] [] h) {J17 : AH → Option Nat → Int32 → Int32 → Int32 → Int32 → Int32 → Int32 → Int32 → Int32 → Prop} (g17 : ∀ (h : AH) (l0 : Option Nat) (l1 : Int32) (l2 : Int32) (l3 : Int32) (l4 : Int32) (l5 : Int32) (l6 : Int32) (l7 : Int32) (l8 : Int32), J17 h l0 l1 l2 l3 l4 l5 l6 l7 l8 → Go E X 23 0 0 17 [(0, aP l0), (1, aI l1), (2, aI l2), (3, aI l3), (4, aI l4), (5, aI l5), (6, aI l6), (7, aI l7), (8, aI l8)] [] h) {h : AH} {l0 : Option Nat} {l1 : Int32} {l2 : Int32} {l3 : Int32} {l4 : Int32} {l5 : Int32} {l6 : Int32} {l7 : Int32} {l8 : Int32} (w : PX11_nearsSides_17 E post J3 J17 h l0 l1 l2 l3 l4 l5 l6 l7 l8) : Go E X 23 0 0 17 [(0, aP l0), (1, aI l1), (2, aI l2), (3, aI l3), (4, aI l4), (5, aI l5), (6, aI l6), (7, aI l7), (8, aI l8)] [] h := by
  unfold PX11_nearsSides_17 at w
  refine r_iload C dX11_nearsSides_17 8 rfl ?_
  refine r_aload_n C dX11_nearsSides_19 rfl 0 rfl ?_
  refine r_iload_n C dX11_nearsSides_20 rfl 3 rfl ?_
  refine r_iload C dX11_nearsSides_21 4 rfl ?_
  refine r_cvI (rm' := rmX11_vertices) C mX11_vertices vX11_vertices k1072 [aI l3, aI l4] [aI l8] rfl rfl (Nat.le_of_ble_eq_true rfl) (by decide) ⟨Nat.zero_le _, Nat.zero_le _⟩ 0 0 rfl rfl dX11_nearsSides_23 w (fun x1 h2 w => ?_)
  refine r_icmp_ge C dX11_nearsSides_26 (tgt := 215) rfl (fun hc => ?_) (fun hc => ?_)
  · have w := w.1 hc
    refine r_iinc C dX11_nearsSides_215 7 rfl (v := 1) rfl (by decide) rfl ?_
    refine r_goto C dX11_nearsSides_218 (tgt := 3) rfl ?_
    exact r_sub [1, 2, 3, 4, 5, 6, 7, 0] rfl (g3 h2 l0 l1 l2 l3 l4 l5 l6 (l7 + (1 : Int32)) w)
  · have w := w.2 hc
    refine r_aload_n C dX11_nearsSides_29 rfl 0 rfl ?_
    refine r_iload_n C dX11_nearsSides_30 rfl 3 rfl ?_
    refine r_iload C dX11_nearsSides_31 4 rfl ?_
    refine r_iload C dX11_nearsSides_33 8 rfl ?_
    refine r_iconst (v := 1) C dX11_nearsSides_35 rfl ?_
    refine r_iadd C dX11_nearsSides_36 ?_
    refine r_cvI (rm' := rmX11_xOf) C mX11_xOf vX11_xOf k1076 [aI l3, aI l4, aI (l8 + (1 : Int32))] [] rfl rfl (Nat.le_of_ble_eq_true rfl) (by decide) ⟨Nat.zero_le _, Nat.zero_le _⟩ 0 0 rfl rfl dX11_nearsSides_37 w (fun x3 h4 w => ?_)
    refine r_aload_n C dX11_nearsSides_40 rfl 0 rfl ?_
    refine r_iload_n C dX11_nearsSides_41 rfl 3 rfl ?_
    refine r_iload C dX11_nearsSides_42 4 rfl ?_
    refine r_iload C dX11_nearsSides_44 8 rfl ?_
    refine r_cvI (rm' := rmX11_xOf) C mX11_xOf vX11_xOf k1076 [aI l3, aI l4, aI l8] [aI x3] rfl rfl (Nat.le_of_ble_eq_true rfl) (by decide) ⟨Nat.zero_le _, Nat.zero_le _⟩ 0 0 rfl rfl dX11_nearsSides_46 w (fun x5 h6 w => ?_)
    refine r_isub C dX11_nearsSides_49 ?_
    refine r_i2l C dX11_nearsSides_50 ?_
    refine r_lstore C dX11_nearsSides_51 (by decide) rfl ?_
    have w := w _ rfl
    skip
    refine r_aload_n C dX11_nearsSides_53 rfl 1 rfl ?_
    refine r_iload_n C dX11_nearsSides_54 rfl 4 rfl ?_
    refine r_iload C dX11_nearsSides_55 5 rfl ?_
    refine r_iload C dX11_nearsSides_57 9 rfl ?_
    refine r_iconst (v := 1) C dX11_nearsSides_59 rfl ?_
    refine r_iadd C dX11_nearsSides_60 ?_
    refine r_cvI (rm' := rmX11_yOf) C mX11_yOf vX11_yOf k1080 [aI l3, aI l4, aI (l8 + (1 : Int32))] [] rfl rfl (Nat.le_of_ble_eq_true rfl) (by decide) ⟨Nat.zero_le _, Nat.zero_le _⟩ 0 0 rfl rfl dX11_nearsSides_61 w (fun x8 h9 w => ?_)
    refine r_aload_n C dX11_nearsSides_64 rfl 1 rfl ?_
    refine r_iload_n C dX11_nearsSides_65 rfl 4 rfl ?_
    refine r_iload C dX11_nearsSides_66 5 rfl ?_
    refine r_iload C dX11_nearsSides_68 9 rfl ?_
    refine r_cvI (rm' := rmX11_yOf) C mX11_yOf vX11_yOf k1080 [aI l3, aI l4, aI l8] [aI x8] rfl rfl (Nat.le_of_ble_eq_true rfl) (by decide) ⟨Nat.zero_le _, Nat.zero_le _⟩ 0 0 rfl rfl dX11_nearsSides_70 w (fun x10 h11 w => ?_)
    refine r_isub C dX11_nearsSides_73 ?_
    refine r_i2l C dX11_nearsSides_74 ?_
    refine r_lstore C dX11_nearsSides_75 (by decide) rfl ?_
    have w := w _ rfl
    skip
    refine r_aload_n C dX11_nearsSides_77 rfl 2 rfl ?_
    refine r_iload_n C dX11_nearsSides_78 rfl 3 rfl ?_
    refine r_iload_n C dX11_nearsSides_79 rfl 4 rfl ?_
    refine r_iload C dX11_nearsSides_80 9 rfl ?_
    refine r_cvI (rm' := rmX11_xOf) C mX11_xOf vX11_xOf k1076 [aI l1, aI l2, aI l7] [] rfl rfl (Nat.le_of_ble_eq_true rfl) (by decide) ⟨Nat.zero_le _, Nat.zero_le _⟩ 0 0 rfl rfl dX11_nearsSides_82 w (fun x13 h14 w => ?_)
    refine r_aload_n C dX11_nearsSides_85 rfl 2 rfl ?_
    refine r_iload_n C dX11_nearsSides_86 rfl 5 rfl ?_
    refine r_iload C dX11_nearsSides_87 6 rfl ?_
    refine r_iload C dX11_nearsSides_89 10 rfl ?_
    refine r_cvI (rm' := rmX11_xOf) C mX11_xOf vX11_xOf k1076 [aI l3, aI l4, aI l8] [aI x13] rfl rfl (Nat.le_of_ble_eq_true rfl) (by decide) ⟨Nat.zero_le _, Nat.zero_le _⟩ 0 0 rfl rfl dX11_nearsSides_91 w (fun x15 h16 w => ?_)
    refine r_isub C dX11_nearsSides_94 ?_
    refine r_iload C dX11_nearsSides_95 7 rfl ?_
    refine r_isub C dX11_nearsSides_97 ?_
    refine r_i2l C dX11_nearsSides_98 ?_
    refine r_lstore C dX11_nearsSides_99 (by decide) rfl ?_
    have w := w _ rfl
    skip
    refine r_aload_n C dX11_nearsSides_101 rfl 3 rfl ?_
    refine r_iload_n C dX11_nearsSides_102 rfl 4 rfl ?_
    refine r_iload_n C dX11_nearsSides_103 rfl 5 rfl ?_
    refine r_iload C dX11_nearsSides_104 10 rfl ?_
    refine r_cvI (rm' := rmX11_yOf) C mX11_yOf vX11_yOf k1080 [aI l1, aI l2, aI l7] [] rfl rfl (Nat.le_of_ble_eq_true rfl) (by decide) ⟨Nat.zero_le _, Nat.zero_le _⟩ 0 0 rfl rfl dX11_nearsSides_106 w (fun x18 h19 w => ?_)
    refine r_aload_n C dX11_nearsSides_109 rfl 3 rfl ?_
    refine r_iload_n C dX11_nearsSides_110 rfl 6 rfl ?_
    refine r_iload C dX11_nearsSides_111 7 rfl ?_
    refine r_iload C dX11_nearsSides_113 11 rfl ?_
    refine r_cvI (rm' := rmX11_yOf) C mX11_yOf vX11_yOf k1080 [aI l3, aI l4, aI l8] [aI x18] rfl rfl (Nat.le_of_ble_eq_true rfl) (by decide) ⟨Nat.zero_le _, Nat.zero_le _⟩ 0 0 rfl rfl dX11_nearsSides_115 w (fun x20 h21 w => ?_)
    refine r_isub C dX11_nearsSides_118 ?_
    refine r_iload C dX11_nearsSides_119 9 rfl ?_
    refine r_isub C dX11_nearsSides_121 ?_
    refine r_i2l C dX11_nearsSides_122 ?_
    refine r_lstore C dX11_nearsSides_123 (by decide) rfl ?_
    have w := w _ rfl
    skip
    refine r_lload C dX11_nearsSides_125 1 rfl ?_
    refine r_lload C dX11_nearsSides_127 3 rfl ?_
    refine r_lmul C dX11_nearsSides_129 ?_
    refine r_lload C dX11_nearsSides_130 0 rfl ?_
    refine r_lload C dX11_nearsSides_132 2 rfl ?_
    refine r_lmul C dX11_nearsSides_134 ?_
    refine r_ladd C dX11_nearsSides_135 ?_
    refine r_lstore C dX11_nearsSides_136 (by decide) rfl ?_
    have w := w _ rfl
    skip
    refine r_lload C dX11_nearsSides_138 4 rfl ?_
    refine r_lload C dX11_nearsSides_140 4 rfl ?_
    refine r_lmul C dX11_nearsSides_142 ?_
    refine r_lload C dX11_nearsSides_143 3 rfl ?_
    refine r_lload C dX11_nearsSides_145 3 rfl ?_
    refine r_lmul C dX11_nearsSides_147 ?_
    refine r_ladd C dX11_nearsSides_148 ?_
    refine r_lstore C dX11_nearsSides_149 (by decide) rfl ?_
    have w := w _ rfl
    skip
    refine r_lload C dX11_nearsSides_151 3 rfl ?_
    refine r_lload C dX11_nearsSides_153 4 rfl ?_
    refine r_lmul C dX11_nearsSides_155 ?_
    refine r_lload C dX11_nearsSides_156 2 rfl ?_
    refine r_lload C dX11_nearsSides_158 5 rfl ?_
    refine r_lmul C dX11_nearsSides_160 ?_
    refine r_lsub C dX11_nearsSides_161 ?_
    refine r_lstore C dX11_nearsSides_162 (by decide) rfl ?_
    have w := w _ rfl
    skip
    refine r_lload C dX11_nearsSides_164 2 rfl ?_
    refine r_lconst (v := 0) C dX11_nearsSides_166 rfl ?_
    refine r_lcmp C dX11_nearsSides_167 ?_
    refine r_if_le C dX11_nearsSides_168 (tgt := 193) rfl (fun hc => ?_) (fun hc => ?_)
    · have w := w.1 hc
      exact r_sub [7, 8, 9, 10, 11, 12, 13, 14, 15, 4, 3] rfl (bX11_nearsSides_193 C D g17 w)
    · have w := w.2 hc
      refine r_lload C dX11_nearsSides_171 2 rfl ?_
      refine r_lload C dX11_nearsSides_173 1 rfl ?_
      refine r_lcmp C dX11_nearsSides_175 ?_
      refine r_if_ge C dX11_nearsSides_176 (tgt := 193) rfl (fun hc => ?_) (fun hc => ?_)
      · have w := w.1 hc
        exact r_sub [7, 8, 9, 10, 11, 12, 13, 14, 15, 4, 3] rfl (bX11_nearsSides_193 C D g17 w)
      · have w := w.2 hc
        refine r_aload_n C dX11_nearsSides_179 rfl 7 rfl ?_
        refine r_lload C dX11_nearsSides_180 0 rfl ?_
        refine r_lload C dX11_nearsSides_182 0 rfl ?_
        refine r_lmul C dX11_nearsSides_184 ?_
        refine r_lload C dX11_nearsSides_185 1 rfl ?_
        refine r_cvV (rm' := rmX11_nears) C mX11_nears vX11_nears k1253 [aJ ((((((x13 - x15) - l5).toInt64) * ((x8 - x10).toInt64)) - ((((x18 - x20) - l6).toInt64) * ((x3 - x5).toInt64))) * (((((x13 - x15) - l5).toInt64) * ((x8 - x10).toInt64)) - ((((x18 - x20) - l6).toInt64) * ((x3 - x5).toInt64)))), aJ ((((x3 - x5).toInt64) * ((x3 - x5).toInt64)) + (((x8 - x10).toInt64) * ((x8 - x10).toInt64)))] [] rfl rfl (Nat.le_of_ble_eq_true rfl) (by decide) ⟨Nat.zero_le _, Nat.zero_le _⟩ 0 0 rfl rfl dX11_nearsSides_187 w (fun h27 w => ?_)
        refine r_goto C dX11_nearsSides_190 (tgt := 209) rfl ?_
        refine r_iinc C dX11_nearsSides_209 15 rfl (v := 1) rfl (by decide) rfl ?_
        refine r_goto C dX11_nearsSides_212 (tgt := 17) rfl ?_
        exact r_sub [8, 9, 10, 11, 12, 13, 14, 15, 0] rfl (g17 h27 l0 l1 l2 l3 l4 l5 l6 l7 (l8 + (1 : Int32)) w)
theorem lpX11_nearsSides_17 {E : EV} {X : AX} {post : Option AV → AH → Prop} (C : Cb E X cX11_nearsSides RX11 23 rmX11_nearsSides) (D : Cr E X none rmX11_nearsSides "nearsSides" post) {J3 : AH → Option Nat → Int32 → Int32 → Int32 → Int32 → Int32 → Int32 → Int32 → Prop} (g3 : ∀ (h : AH) (l0 : Option Nat) (l1 : Int32) (l2 : Int32) (l3 : Int32) (l4 : Int32) (l5 : Int32) (l6 : Int32) (l7 : Int32), J3 h l0 l1 l2 l3 l4 l5 l6 l7 → Go E X 23 0 0 3 [(0, aP l0), (1, aI l1), (2, aI l2), (3, aI l3), (4, aI l4), (5, aI l5), (6, aI l6), (7, aI l7)] [] h) (I : Nat → AH → Option Nat → Int32 → Int32 → Int32 → Int32 → Int32 → Int32 → Int32 → Int32 → Prop) (step : ∀ (z : Nat) (h : AH) (l0 : Option Nat) (l1 : Int32) (l2 : Int32) (l3 : Int32) (l4 : Int32) (l5 : Int32) (l6 : Int32) (l7 : Int32) (l8 : Int32), I z h l0 l1 l2 l3 l4 l5 l6 l7 l8 → PX11_nearsSides_17 E post J3 (fun h l0 l1 l2 l3 l4 l5 l6 l7 l8 => ∃ z', z' < z ∧ I z' h l0 l1 l2 l3 l4 l5 l6 l7 l8) h l0 l1 l2 l3 l4 l5 l6 l7 l8) : ∀ (z : Nat) (h : AH) (l0 : Option Nat) (l1 : Int32) (l2 : Int32) (l3 : Int32) (l4 : Int32) (l5 : Int32) (l6 : Int32) (l7 : Int32) (l8 : Int32), I z h l0 l1 l2 l3 l4 l5 l6 l7 l8 → Go E X 23 0 0 17 [(0, aP l0), (1, aI l1), (2, aI l2), (3, aI l3), (4, aI l4), (5, aI l5), (6, aI l6), (7, aI l7), (8, aI l8)] [] h := by
  intro z
  induction z using Nat.strongRecOn with
  | _ z ih =>
    intro h l0 l1 l2 l3 l4 l5 l6 l7 l8 hI
    exact bX11_nearsSides_17 C D g3 (fun h l0 l1 l2 l3 l4 l5 l6 l7 l8 hJ => by obtain ⟨z', hz, hi⟩ := hJ; exact ih z' hz h l0 l1 l2 l3 l4 l5 l6 l7 l8 hi) (step z h l0 l1 l2 l3 l4 l5 l6 l7 l8 hI)
def PX11_nearsSides_3 (E : EV) (post : Option AV → AH → Prop) (J17 : AH → Option Nat → Int32 → Int32 → Int32 → Int32 → Int32 → Int32 → Int32 → Int32 → Prop) (h : AH) (l0 : Option Nat) (l1 : Int32) (l2 : Int32) (l3 : Int32) (l4 : Int32) (l5 : Int32) (l6 : Int32) (l7 : Int32) : Prop :=
  CV (sX11_vertices E) l0 11 [aI l1, aI l2] h (kI fun x1 h2 => (x1 ≤ l7 → post none h2) ∧ (¬ x1 ≤ l7 → J17 h2 l0 l1 l2 l3 l4 l5 l6 l7 (0 : Int32)))
theorem bX11_nearsSides_3 {E : EV} {X : AX} {post : Option AV → AH → Prop} (C : Cb E X cX11_nearsSides RX11 23 rmX11_nearsSides) (D : Cr E X none rmX11_nearsSides "nearsSides" post) {J17 : AH → Option Nat → Int32 → Int32 → Int32 → Int32 → Int32 → Int32 → Int32 → Int32 → Prop} (g17 : ∀ (h : AH) (l0 : Option Nat) (l1 : Int32) (l2 : Int32) (l3 : Int32) (l4 : Int32) (l5 : Int32) (l6 : Int32) (l7 : Int32) (l8 : Int32), J17 h l0 l1 l2 l3 l4 l5 l6 l7 l8 → Go E X 23 0 0 17 [(0, aP l0), (1, aI l1), (2, aI l2), (3, aI l3), (4, aI l4), (5, aI l5), (6, aI l6), (7, aI l7), (8, aI l8)] [] h) {h : AH} {l0 : Option Nat} {l1 : Int32} {l2 : Int32} {l3 : Int32} {l4 : Int32} {l5 : Int32} {l6 : Int32} {l7 : Int32} (w : PX11_nearsSides_3 E post J17 h l0 l1 l2 l3 l4 l5 l6 l7) : Go E X 23 0 0 3 [(0, aP l0), (1, aI l1), (2, aI l2), (3, aI l3), (4, aI l4), (5, aI l5), (6, aI l6), (7, aI l7)] [] h := by
  unfold PX11_nearsSides_3 at w
  refine r_iload C dX11_nearsSides_3 7 rfl ?_
  refine r_aload_n C dX11_nearsSides_5 rfl 0 rfl ?_
  refine r_iload_n C dX11_nearsSides_6 rfl 1 rfl ?_
  refine r_iload_n C dX11_nearsSides_7 rfl 2 rfl ?_
  refine r_cvI (rm' := rmX11_vertices) C mX11_vertices vX11_vertices k1072 [aI l1, aI l2] [aI l7] rfl rfl (Nat.le_of_ble_eq_true rfl) (by decide) ⟨Nat.zero_le _, Nat.zero_le _⟩ 0 0 rfl rfl dX11_nearsSides_8 w (fun x1 h2 w => ?_)
  refine r_icmp_ge C dX11_nearsSides_11 (tgt := 221) rfl (fun hc => ?_) (fun hc => ?_)
  · have w := w.1 hc
    exact r_vret C D rfl (Nat.zero_le _) (Nat.zero_le _) dX11_nearsSides_221 w
  · have w := w.2 hc
    refine r_iconst (v := 0) C dX11_nearsSides_14 rfl ?_
    refine r_istore C dX11_nearsSides_15 (by decide) rfl ?_
    exact r_sub [1, 2, 3, 4, 5, 6, 7, 8, 0] rfl (g17 h2 l0 l1 l2 l3 l4 l5 l6 l7 (0 : Int32) w)
def PX11_nearsSides_0 (E : EV) (post : Option AV → AH → Prop) (J3 : AH → Option Nat → Int32 → Int32 → Int32 → Int32 → Int32 → Int32 → Int32 → Prop) (h : AH) (l0 : Option Nat) (l1 : Int32) (l2 : Int32) (l3 : Int32) (l4 : Int32) (l5 : Int32) (l6 : Int32) : Prop :=
  J3 h l0 l1 l2 l3 l4 l5 l6 (0 : Int32)
theorem bX11_nearsSides_0 {E : EV} {X : AX} {post : Option AV → AH → Prop} (C : Cb E X cX11_nearsSides RX11 23 rmX11_nearsSides) (D : Cr E X none rmX11_nearsSides "nearsSides" post) {J3 : AH → Option Nat → Int32 → Int32 → Int32 → Int32 → Int32 → Int32 → Int32 → Prop} (g3 : ∀ (h : AH) (l0 : Option Nat) (l1 : Int32) (l2 : Int32) (l3 : Int32) (l4 : Int32) (l5 : Int32) (l6 : Int32) (l7 : Int32), J3 h l0 l1 l2 l3 l4 l5 l6 l7 → Go E X 23 0 0 3 [(0, aP l0), (1, aI l1), (2, aI l2), (3, aI l3), (4, aI l4), (5, aI l5), (6, aI l6), (7, aI l7)] [] h) {h : AH} {l0 : Option Nat} {l1 : Int32} {l2 : Int32} {l3 : Int32} {l4 : Int32} {l5 : Int32} {l6 : Int32} (w : PX11_nearsSides_0 E post J3 h l0 l1 l2 l3 l4 l5 l6) : Go E X 23 0 0 0 [(0, aP l0), (1, aI l1), (2, aI l2), (3, aI l3), (4, aI l4), (5, aI l5), (6, aI l6)] [] h := by
  unfold PX11_nearsSides_0 at w
  refine r_iconst (v := 0) C dX11_nearsSides_0 rfl ?_
  refine r_istore C dX11_nearsSides_1 (by decide) rfl ?_
  exact r_sub [1, 2, 3, 4, 5, 6, 7, 0] rfl (g3 h l0 l1 l2 l3 l4 l5 l6 (0 : Int32) w)
theorem eX11_nearsSides {E : EV} {post : Option AV → AH → Prop} {h : AH} {l0 : Option Nat} {l1 : Int32} {l2 : Int32} {l3 : Int32} {l4 : Int32} {l5 : Int32} {l6 : Int32} {J3 : AH → Option Nat → Int32 → Int32 → Int32 → Int32 → Int32 → Int32 → Int32 → Prop} (g3 : ∀ X : AX, Cb E X cX11_nearsSides RX11 23 rmX11_nearsSides → Cr E X none rmX11_nearsSides "nearsSides" post → ∀ (h : AH) (l0 : Option Nat) (l1 : Int32) (l2 : Int32) (l3 : Int32) (l4 : Int32) (l5 : Int32) (l6 : Int32) (l7 : Int32), J3 h l0 l1 l2 l3 l4 l5 l6 l7 → Go E X 23 0 0 3 [(0, aP l0), (1, aI l1), (2, aI l2), (3, aI l3), (4, aI l4), (5, aI l5), (6, aI l6), (7, aI l7)] [] h) (w : PX11_nearsSides_0 E post J3 h l0 l1 l2 l3 l4 l5 l6) : sX11_nearsSides E [aP l0, aI l1, aI l2, aI l3, aI l4, aI l5, aI l6] h post := Spec.of RX11 rfl rfl (Nat.le_of_ble_eq_true rfl) fun X C D => bX11_nearsSides_0 C D (g3 X C D) w
theorem dX11_laysGap_0 : decode cX11_laysGap 0 = .ok (.aload_n 0, 1) := by decide +kernel
theorem dX11_laysGap_1 : decode cX11_laysGap 1 = .ok (.lconst 0, 1) := by decide +kernel
theorem dX11_laysGap_2 : decode cX11_laysGap 2 = .ok (.putfield 111, 3) := by decide +kernel
theorem dX11_laysGap_5 : decode cX11_laysGap 5 = .ok (.aload_n 0, 1) := by decide +kernel
theorem dX11_laysGap_6 : decode cX11_laysGap 6 = .ok (.lconst 0, 1) := by decide +kernel
theorem dX11_laysGap_7 : decode cX11_laysGap 7 = .ok (.putfield 107, 3) := by decide +kernel
theorem dX11_laysGap_10 : decode cX11_laysGap 10 = .ok (.iconst 0, 1) := by decide +kernel
theorem dX11_laysGap_11 : decode cX11_laysGap 11 = .ok (.istore 5, 2) := by decide +kernel
theorem dX11_laysGap_13 : decode cX11_laysGap 13 = .ok (.iload 5, 2) := by decide +kernel
theorem dX11_laysGap_15 : decode cX11_laysGap 15 = .ok (.aload_n 0, 1) := by decide +kernel
theorem dX11_laysGap_16 : decode cX11_laysGap 16 = .ok (.iload_n 1, 1) := by decide +kernel
theorem dX11_laysGap_17 : decode cX11_laysGap 17 = .ok (.invokevirtual 66, 3) := by decide +kernel
theorem dX11_laysGap_20 : decode cX11_laysGap 20 = .ok (.if_icmp .ge 56, 3) := by decide +kernel
theorem dX11_laysGap_23 : decode cX11_laysGap 23 = .ok (.iconst 0, 1) := by decide +kernel
theorem dX11_laysGap_24 : decode cX11_laysGap 24 = .ok (.istore 6, 2) := by decide +kernel
theorem dX11_laysGap_26 : decode cX11_laysGap 26 = .ok (.iload 6, 2) := by decide +kernel
theorem dX11_laysGap_28 : decode cX11_laysGap 28 = .ok (.aload_n 0, 1) := by decide +kernel
theorem dX11_laysGap_29 : decode cX11_laysGap 29 = .ok (.iload_n 2, 1) := by decide +kernel
theorem dX11_laysGap_30 : decode cX11_laysGap 30 = .ok (.invokevirtual 66, 3) := by decide +kernel
theorem dX11_laysGap_33 : decode cX11_laysGap 33 = .ok (.if_icmp .ge 37, 3) := by decide +kernel
theorem dX11_laysGap_36 : decode cX11_laysGap 36 = .ok (.aload_n 0, 1) := by decide +kernel
theorem dX11_laysGap_37 : decode cX11_laysGap 37 = .ok (.iload_n 1, 1) := by decide +kernel
theorem dX11_laysGap_38 : decode cX11_laysGap 38 = .ok (.iload 5, 2) := by decide +kernel
theorem dX11_laysGap_40 : decode cX11_laysGap 40 = .ok (.iload_n 2, 1) := by decide +kernel
theorem dX11_laysGap_41 : decode cX11_laysGap 41 = .ok (.iload 6, 2) := by decide +kernel
theorem dX11_laysGap_43 : decode cX11_laysGap 43 = .ok (.iload_n 3, 1) := by decide +kernel
theorem dX11_laysGap_44 : decode cX11_laysGap 44 = .ok (.iload 4, 2) := by decide +kernel
theorem dX11_laysGap_46 : decode cX11_laysGap 46 = .ok (.invokevirtual 118, 3) := by decide +kernel
theorem dX11_laysGap_49 : decode cX11_laysGap 49 = .ok (.aload_n 0, 1) := by decide +kernel
theorem dX11_laysGap_50 : decode cX11_laysGap 50 = .ok (.iload_n 2, 1) := by decide +kernel
theorem dX11_laysGap_51 : decode cX11_laysGap 51 = .ok (.iload 6, 2) := by decide +kernel
theorem dX11_laysGap_53 : decode cX11_laysGap 53 = .ok (.iload_n 1, 1) := by decide +kernel
theorem dX11_laysGap_54 : decode cX11_laysGap 54 = .ok (.iload 5, 2) := by decide +kernel
theorem dX11_laysGap_56 : decode cX11_laysGap 56 = .ok (.iload_n 3, 1) := by decide +kernel
theorem dX11_laysGap_57 : decode cX11_laysGap 57 = .ok (.ineg, 1) := by decide +kernel
theorem dX11_laysGap_58 : decode cX11_laysGap 58 = .ok (.iload 4, 2) := by decide +kernel
theorem dX11_laysGap_60 : decode cX11_laysGap 60 = .ok (.ineg, 1) := by decide +kernel
theorem dX11_laysGap_61 : decode cX11_laysGap 61 = .ok (.invokevirtual 118, 3) := by decide +kernel
theorem dX11_laysGap_64 : decode cX11_laysGap 64 = .ok (.iinc 6 1, 3) := by decide +kernel
theorem dX11_laysGap_67 : decode cX11_laysGap 67 = .ok (.goto (-41), 3) := by decide +kernel
theorem dX11_laysGap_70 : decode cX11_laysGap 70 = .ok (.iinc 5 1, 3) := by decide +kernel
theorem dX11_laysGap_73 : decode cX11_laysGap 73 = .ok (.goto (-60), 3) := by decide +kernel
theorem dX11_laysGap_76 : decode cX11_laysGap 76 = .ok (.aload_n 0, 1) := by decide +kernel
theorem dX11_laysGap_77 : decode cX11_laysGap 77 = .ok (.iload_n 1, 1) := by decide +kernel
theorem dX11_laysGap_78 : decode cX11_laysGap 78 = .ok (.iload_n 2, 1) := by decide +kernel
theorem dX11_laysGap_79 : decode cX11_laysGap 79 = .ok (.iload_n 3, 1) := by decide +kernel
theorem dX11_laysGap_80 : decode cX11_laysGap 80 = .ok (.iload 4, 2) := by decide +kernel
theorem dX11_laysGap_82 : decode cX11_laysGap 82 = .ok (.iconst 0, 1) := by decide +kernel
theorem dX11_laysGap_83 : decode cX11_laysGap 83 = .ok (.iconst 1, 1) := by decide +kernel
theorem dX11_laysGap_84 : decode cX11_laysGap 84 = .ok (.invokevirtual 103, 3) := by decide +kernel
theorem dX11_laysGap_87 : decode cX11_laysGap 87 = .ok (.ifCond .eq 13, 3) := by decide +kernel
theorem dX11_laysGap_90 : decode cX11_laysGap 90 = .ok (.aload_n 0, 1) := by decide +kernel
theorem dX11_laysGap_91 : decode cX11_laysGap 91 = .ok (.lconst 0, 1) := by decide +kernel
theorem dX11_laysGap_92 : decode cX11_laysGap 92 = .ok (.putfield 111, 3) := by decide +kernel
theorem dX11_laysGap_95 : decode cX11_laysGap 95 = .ok (.aload_n 0, 1) := by decide +kernel
theorem dX11_laysGap_96 : decode cX11_laysGap 96 = .ok (.lconst 1, 1) := by decide +kernel
theorem dX11_laysGap_97 : decode cX11_laysGap 97 = .ok (.putfield 107, 3) := by decide +kernel
theorem dX11_laysGap_100 : decode cX11_laysGap 100 = .ok (.return_, 1) := by decide +kernel
abbrev rmX11_laysGap : Room := { frames := 5, cells := 0, slots := 0, locals := 200 }
abbrev sX11_laysGap (E : EV) : List AV → AH → (Option AV → AH → Prop) → Prop := Spec E yX11_laysGap cX11_laysGap 7 none rmX11_laysGap
theorem mX11_laysGap : Mt yX11_laysGap cX11_laysGap 7 none 4 := ⟨k1248, k12, by decide +kernel⟩
theorem vX11_laysGap : MtV yX11_laysGap 11 := ⟨k1247, kp61, by decide, (RX11, TX11, 26), rfl, rfl⟩
def PX11_laysGap_26 (E : EV) (post : Option AV → AH → Prop) (J13 : AH → Option Nat → Int32 → Int32 → Int32 → Int32 → Int32 → Prop) (J26 : AH → Option Nat → Int32 → Int32 → Int32 → Int32 → Int32 → Int32 → Prop) (h : AH) (l0 : Option Nat) (l1 : Int32) (l2 : Int32) (l3 : Int32) (l4 : Int32) (l5 : Int32) (l6 : Int32) : Prop :=
  CV (sX11_pieces E) l0 11 [aI l2] h (kI fun x1 h2 => (x1 ≤ l6 → J13 h2 l0 l1 l2 l3 l4 (l5 + (1 : Int32))) ∧ (¬ x1 ≤ l6 → CV (sX11_nearsSides E) l0 11 [aI l1, aI l5, aI l2, aI l6, aI l3, aI l4] h2 (kV fun h4 => CV (sX11_nearsSides E) l0 11 [aI l2, aI l6, aI l1, aI l5, aI (-l3), aI (-l4)] h4 (kV fun h6 => J26 h6 l0 l1 l2 l3 l4 l5 (l6 + (1 : Int32))))))
theorem bX11_laysGap_26 {E : EV} {X : AX} {post : Option AV → AH → Prop} (C : Cb E X cX11_laysGap RX11 7 rmX11_laysGap) (D : Cr E X none rmX11_laysGap "laysGap" post) {J13 : AH → Option Nat → Int32 → Int32 → Int32 → Int32 → Int32 → Prop} (g13 : ∀ (h : AH) (l0 : Option Nat) (l1 : Int32) (l2 : Int32) (l3 : Int32) (l4 : Int32) (l5 : Int32), J13 h l0 l1 l2 l3 l4 l5 → Go E X 7 0 0 13 [(0, aP l0), (1, aI l1), (2, aI l2), (3, aI l3), (4, aI l4), (5, aI l5)] [] h) {J26 : AH → Option Nat → Int32 → Int32 → Int32 → Int32 → Int32 → Int32 → Prop} (g26 : ∀ (h : AH) (l0 : Option Nat) (l1 : Int32) (l2 : Int32) (l3 : Int32) (l4 : Int32) (l5 : Int32) (l6 : Int32), J26 h l0 l1 l2 l3 l4 l5 l6 → Go E X 7 0 0 26 [(0, aP l0), (1, aI l1), (2, aI l2), (3, aI l3), (4, aI l4), (5, aI l5), (6, aI l6)] [] h) {h : AH} {l0 : Option Nat} {l1 : Int32} {l2 : Int32} {l3 : Int32} {l4 : Int32} {l5 : Int32} {l6 : Int32} (w : PX11_laysGap_26 E post J13 J26 h l0 l1 l2 l3 l4 l5 l6) : Go E X 7 0 0 26 [(0, aP l0), (1, aI l1), (2, aI l2), (3, aI l3), (4, aI l4), (5, aI l5), (6, aI l6)] [] h := by
  unfold PX11_laysGap_26 at w
  refine r_iload C dX11_laysGap_26 6 rfl ?_
  refine r_aload_n C dX11_laysGap_28 rfl 0 rfl ?_
  refine r_iload_n C dX11_laysGap_29 rfl 2 rfl ?_
  refine r_cvI (rm' := rmX11_pieces) C mX11_pieces vX11_pieces k1115 [aI l2] [aI l6] rfl rfl (Nat.le_of_ble_eq_true rfl) (by decide) ⟨Nat.zero_le _, Nat.zero_le _⟩ 0 0 rfl rfl dX11_laysGap_30 w (fun x1 h2 w => ?_)
  refine r_icmp_ge C dX11_laysGap_33 (tgt := 70) rfl (fun hc => ?_) (fun hc => ?_)
  · have w := w.1 hc
    refine r_iinc C dX11_laysGap_70 5 rfl (v := 1) rfl (by decide) rfl ?_
    refine r_goto C dX11_laysGap_73 (tgt := 13) rfl ?_
    exact r_sub [1, 2, 3, 4, 5, 0] rfl (g13 h2 l0 l1 l2 l3 l4 (l5 + (1 : Int32)) w)
  · have w := w.2 hc
    refine r_aload_n C dX11_laysGap_36 rfl 0 rfl ?_
    refine r_iload_n C dX11_laysGap_37 rfl 1 rfl ?_
    refine r_iload C dX11_laysGap_38 5 rfl ?_
    refine r_iload_n C dX11_laysGap_40 rfl 2 rfl ?_
    refine r_iload C dX11_laysGap_41 6 rfl ?_
    refine r_iload_n C dX11_laysGap_43 rfl 3 rfl ?_
    refine r_iload C dX11_laysGap_44 4 rfl ?_
    refine r_cvV (rm' := rmX11_nearsSides) C mX11_nearsSides vX11_nearsSides k1249 [aI l1, aI l5, aI l2, aI l6, aI l3, aI l4] [] rfl rfl (Nat.le_of_ble_eq_true rfl) (by decide) ⟨Nat.zero_le _, Nat.zero_le _⟩ 0 0 rfl rfl dX11_laysGap_46 w (fun h4 w => ?_)
    refine r_aload_n C dX11_laysGap_49 rfl 0 rfl ?_
    refine r_iload_n C dX11_laysGap_50 rfl 2 rfl ?_
    refine r_iload C dX11_laysGap_51 6 rfl ?_
    refine r_iload_n C dX11_laysGap_53 rfl 1 rfl ?_
    refine r_iload C dX11_laysGap_54 5 rfl ?_
    refine r_iload_n C dX11_laysGap_56 rfl 3 rfl ?_
    refine r_ineg C dX11_laysGap_57 ?_
    refine r_iload C dX11_laysGap_58 4 rfl ?_
    refine r_ineg C dX11_laysGap_60 ?_
    refine r_cvV (rm' := rmX11_nearsSides) C mX11_nearsSides vX11_nearsSides k1249 [aI l2, aI l6, aI l1, aI l5, aI (-l3), aI (-l4)] [] rfl rfl (Nat.le_of_ble_eq_true rfl) (by decide) ⟨Nat.zero_le _, Nat.zero_le _⟩ 0 0 rfl rfl dX11_laysGap_61 w (fun h6 w => ?_)
    refine r_iinc C dX11_laysGap_64 6 rfl (v := 1) rfl (by decide) rfl ?_
    refine r_goto C dX11_laysGap_67 (tgt := 26) rfl ?_
    exact r_sub [1, 2, 3, 4, 5, 6, 0] rfl (g26 h6 l0 l1 l2 l3 l4 l5 (l6 + (1 : Int32)) w)
theorem lpX11_laysGap_26 {E : EV} {X : AX} {post : Option AV → AH → Prop} (C : Cb E X cX11_laysGap RX11 7 rmX11_laysGap) (D : Cr E X none rmX11_laysGap "laysGap" post) {J13 : AH → Option Nat → Int32 → Int32 → Int32 → Int32 → Int32 → Prop} (g13 : ∀ (h : AH) (l0 : Option Nat) (l1 : Int32) (l2 : Int32) (l3 : Int32) (l4 : Int32) (l5 : Int32), J13 h l0 l1 l2 l3 l4 l5 → Go E X 7 0 0 13 [(0, aP l0), (1, aI l1), (2, aI l2), (3, aI l3), (4, aI l4), (5, aI l5)] [] h) (I : Nat → AH → Option Nat → Int32 → Int32 → Int32 → Int32 → Int32 → Int32 → Prop) (step : ∀ (z : Nat) (h : AH) (l0 : Option Nat) (l1 : Int32) (l2 : Int32) (l3 : Int32) (l4 : Int32) (l5 : Int32) (l6 : Int32), I z h l0 l1 l2 l3 l4 l5 l6 → PX11_laysGap_26 E post J13 (fun h l0 l1 l2 l3 l4 l5 l6 => ∃ z', z' < z ∧ I z' h l0 l1 l2 l3 l4 l5 l6) h l0 l1 l2 l3 l4 l5 l6) : ∀ (z : Nat) (h : AH) (l0 : Option Nat) (l1 : Int32) (l2 : Int32) (l3 : Int32) (l4 : Int32) (l5 : Int32) (l6 : Int32), I z h l0 l1 l2 l3 l4 l5 l6 → Go E X 7 0 0 26 [(0, aP l0), (1, aI l1), (2, aI l2), (3, aI l3), (4, aI l4), (5, aI l5), (6, aI l6)] [] h := by
  intro z
  induction z using Nat.strongRecOn with
  | _ z ih =>
    intro h l0 l1 l2 l3 l4 l5 l6 hI
    exact bX11_laysGap_26 C D g13 (fun h l0 l1 l2 l3 l4 l5 l6 hJ => by obtain ⟨z', hz, hi⟩ := hJ; exact ih z' hz h l0 l1 l2 l3 l4 l5 l6 hi) (step z h l0 l1 l2 l3 l4 l5 l6 hI)
def PX11_laysGap_13 (E : EV) (post : Option AV → AH → Prop) (J26 : AH → Option Nat → Int32 → Int32 → Int32 → Int32 → Int32 → Int32 → Prop) (h : AH) (l0 : Option Nat) (l1 : Int32) (l2 : Int32) (l3 : Int32) (l4 : Int32) (l5 : Int32) : Prop :=
  CV (sX11_pieces E) l0 11 [aI l1] h (kI fun x1 h2 => (x1 ≤ l5 → CV (sX11_isAny E) l0 11 [aI l1, aI l2, aI l3, aI l4, aI (0 : Int32), aI (1 : Int32)] h2 (kI fun x3 h4 => (x3 = 0 → post none h4) ∧ (¬ x3 = 0 → wr h4 l0 11 7 (aJ (0 : Int64)) fun h5 => wr h5 l0 11 8 (aJ (1 : Int64)) fun h6 => post none h6))) ∧ (¬ x1 ≤ l5 → J26 h2 l0 l1 l2 l3 l4 l5 (0 : Int32)))
theorem bX11_laysGap_13 {E : EV} {X : AX} {post : Option AV → AH → Prop} (C : Cb E X cX11_laysGap RX11 7 rmX11_laysGap) (D : Cr E X none rmX11_laysGap "laysGap" post) {J26 : AH → Option Nat → Int32 → Int32 → Int32 → Int32 → Int32 → Int32 → Prop} (g26 : ∀ (h : AH) (l0 : Option Nat) (l1 : Int32) (l2 : Int32) (l3 : Int32) (l4 : Int32) (l5 : Int32) (l6 : Int32), J26 h l0 l1 l2 l3 l4 l5 l6 → Go E X 7 0 0 26 [(0, aP l0), (1, aI l1), (2, aI l2), (3, aI l3), (4, aI l4), (5, aI l5), (6, aI l6)] [] h) {h : AH} {l0 : Option Nat} {l1 : Int32} {l2 : Int32} {l3 : Int32} {l4 : Int32} {l5 : Int32} (w : PX11_laysGap_13 E post J26 h l0 l1 l2 l3 l4 l5) : Go E X 7 0 0 13 [(0, aP l0), (1, aI l1), (2, aI l2), (3, aI l3), (4, aI l4), (5, aI l5)] [] h := by
  unfold PX11_laysGap_13 at w
  refine r_iload C dX11_laysGap_13 5 rfl ?_
  refine r_aload_n C dX11_laysGap_15 rfl 0 rfl ?_
  refine r_iload_n C dX11_laysGap_16 rfl 1 rfl ?_
  refine r_cvI (rm' := rmX11_pieces) C mX11_pieces vX11_pieces k1115 [aI l1] [aI l5] rfl rfl (Nat.le_of_ble_eq_true rfl) (by decide) ⟨Nat.zero_le _, Nat.zero_le _⟩ 0 0 rfl rfl dX11_laysGap_17 w (fun x1 h2 w => ?_)
  refine r_icmp_ge C dX11_laysGap_20 (tgt := 76) rfl (fun hc => ?_) (fun hc => ?_)
  · have w := w.1 hc
    refine r_aload_n C dX11_laysGap_76 rfl 0 rfl ?_
    refine r_iload_n C dX11_laysGap_77 rfl 1 rfl ?_
    refine r_iload_n C dX11_laysGap_78 rfl 2 rfl ?_
    refine r_iload_n C dX11_laysGap_79 rfl 3 rfl ?_
    refine r_iload C dX11_laysGap_80 4 rfl ?_
    refine r_iconst (v := 0) C dX11_laysGap_82 rfl ?_
    refine r_iconst (v := 1) C dX11_laysGap_83 rfl ?_
    refine r_cvI (rm' := rmX11_isAny) C mX11_isAny vX11_isAny k1221 [aI l1, aI l2, aI l3, aI l4, aI (0 : Int32), aI (1 : Int32)] [] rfl rfl (Nat.le_of_ble_eq_true rfl) (by decide) ⟨Nat.zero_le _, Nat.zero_le _⟩ 0 0 rfl rfl dX11_laysGap_84 w (fun x3 h4 w => ?_)
    refine r_if_eq C dX11_laysGap_87 (tgt := 100) rfl (fun hc => ?_) (fun hc => ?_)
    · have w := w.1 hc
      exact r_vret C D rfl (Nat.zero_le _) (Nat.zero_le _) dX11_laysGap_100 w
    · have w := w.2 hc
      refine r_aload_n C dX11_laysGap_90 rfl 0 rfl ?_
      refine r_lconst (v := 0) C dX11_laysGap_91 rfl ?_
      refine r_put C fcX11 (f := 7) (by decide) rfl rfl rfl rfl k950 dX11_laysGap_92 (w.mono fun h5 w => ?_)
      refine r_aload_n C dX11_laysGap_95 rfl 0 rfl ?_
      refine r_lconst (v := 1) C dX11_laysGap_96 rfl ?_
      refine r_put C fcX11 (f := 8) (by decide) rfl rfl rfl rfl k951 dX11_laysGap_97 (w.mono fun h6 w => ?_)
      exact r_vret C D rfl (Nat.zero_le _) (Nat.zero_le _) dX11_laysGap_100 w
  · have w := w.2 hc
    refine r_iconst (v := 0) C dX11_laysGap_23 rfl ?_
    refine r_istore C dX11_laysGap_24 (by decide) rfl ?_
    exact r_sub [1, 2, 3, 4, 5, 6, 0] rfl (g26 h2 l0 l1 l2 l3 l4 l5 (0 : Int32) w)
def PX11_laysGap_0 (E : EV) (post : Option AV → AH → Prop) (J13 : AH → Option Nat → Int32 → Int32 → Int32 → Int32 → Int32 → Prop) (h : AH) (l0 : Option Nat) (l1 : Int32) (l2 : Int32) (l3 : Int32) (l4 : Int32) : Prop :=
  wr h l0 11 7 (aJ (0 : Int64)) fun h1 => wr h1 l0 11 8 (aJ (0 : Int64)) fun h2 => J13 h2 l0 l1 l2 l3 l4 (0 : Int32)
theorem bX11_laysGap_0 {E : EV} {X : AX} {post : Option AV → AH → Prop} (C : Cb E X cX11_laysGap RX11 7 rmX11_laysGap) (D : Cr E X none rmX11_laysGap "laysGap" post) {J13 : AH → Option Nat → Int32 → Int32 → Int32 → Int32 → Int32 → Prop} (g13 : ∀ (h : AH) (l0 : Option Nat) (l1 : Int32) (l2 : Int32) (l3 : Int32) (l4 : Int32) (l5 : Int32), J13 h l0 l1 l2 l3 l4 l5 → Go E X 7 0 0 13 [(0, aP l0), (1, aI l1), (2, aI l2), (3, aI l3), (4, aI l4), (5, aI l5)] [] h) {h : AH} {l0 : Option Nat} {l1 : Int32} {l2 : Int32} {l3 : Int32} {l4 : Int32} (w : PX11_laysGap_0 E post J13 h l0 l1 l2 l3 l4) : Go E X 7 0 0 0 [(0, aP l0), (1, aI l1), (2, aI l2), (3, aI l3), (4, aI l4)] [] h := by
  unfold PX11_laysGap_0 at w
  refine r_aload_n C dX11_laysGap_0 rfl 0 rfl ?_
  refine r_lconst (v := 0) C dX11_laysGap_1 rfl ?_
  refine r_put C fcX11 (f := 7) (by decide) rfl rfl rfl rfl k950 dX11_laysGap_2 (w.mono fun h1 w => ?_)
  refine r_aload_n C dX11_laysGap_5 rfl 0 rfl ?_
  refine r_lconst (v := 0) C dX11_laysGap_6 rfl ?_
  refine r_put C fcX11 (f := 8) (by decide) rfl rfl rfl rfl k951 dX11_laysGap_7 (w.mono fun h2 w => ?_)
  refine r_iconst (v := 0) C dX11_laysGap_10 rfl ?_
  refine r_istore C dX11_laysGap_11 (by decide) rfl ?_
  exact r_sub [1, 2, 3, 4, 5, 0] rfl (g13 h2 l0 l1 l2 l3 l4 (0 : Int32) w)
theorem eX11_laysGap {E : EV} {post : Option AV → AH → Prop} {h : AH} {l0 : Option Nat} {l1 : Int32} {l2 : Int32} {l3 : Int32} {l4 : Int32} {J13 : AH → Option Nat → Int32 → Int32 → Int32 → Int32 → Int32 → Prop} (g13 : ∀ X : AX, Cb E X cX11_laysGap RX11 7 rmX11_laysGap → Cr E X none rmX11_laysGap "laysGap" post → ∀ (h : AH) (l0 : Option Nat) (l1 : Int32) (l2 : Int32) (l3 : Int32) (l4 : Int32) (l5 : Int32), J13 h l0 l1 l2 l3 l4 l5 → Go E X 7 0 0 13 [(0, aP l0), (1, aI l1), (2, aI l2), (3, aI l3), (4, aI l4), (5, aI l5)] [] h) (w : PX11_laysGap_0 E post J13 h l0 l1 l2 l3 l4) : sX11_laysGap E [aP l0, aI l1, aI l2, aI l3, aI l4] h post := Spec.of RX11 rfl rfl (Nat.le_of_ble_eq_true rfl) fun X C D => bX11_laysGap_0 C D (g13 X C D) w
theorem dX11_laysItemGap_0 : decode cX11_laysItemGap 0 = .ok (.aload_n 0, 1) := by decide +kernel
theorem dX11_laysItemGap_1 : decode cX11_laysItemGap 1 = .ok (.iload_n 1, 1) := by decide +kernel
theorem dX11_laysItemGap_2 : decode cX11_laysItemGap 2 = .ok (.invokestatic 257, 3) := by decide +kernel
theorem dX11_laysItemGap_5 : decode cX11_laysItemGap 5 = .ok (.iload_n 2, 1) := by decide +kernel
theorem dX11_laysItemGap_6 : decode cX11_laysItemGap 6 = .ok (.invokestatic 257, 3) := by decide +kernel
theorem dX11_laysItemGap_9 : decode cX11_laysItemGap 9 = .ok (.aload_n 0, 1) := by decide +kernel
theorem dX11_laysItemGap_10 : decode cX11_laysItemGap 10 = .ok (.iload_n 2, 1) := by decide +kernel
theorem dX11_laysItemGap_11 : decode cX11_laysItemGap 11 = .ok (.invokevirtual 260, 3) := by decide +kernel
theorem dX11_laysItemGap_14 : decode cX11_laysItemGap 14 = .ok (.aload_n 0, 1) := by decide +kernel
theorem dX11_laysItemGap_15 : decode cX11_laysItemGap 15 = .ok (.iload_n 1, 1) := by decide +kernel
theorem dX11_laysItemGap_16 : decode cX11_laysItemGap 16 = .ok (.invokevirtual 260, 3) := by decide +kernel
theorem dX11_laysItemGap_19 : decode cX11_laysItemGap 19 = .ok (.isub, 1) := by decide +kernel
theorem dX11_laysItemGap_20 : decode cX11_laysItemGap 20 = .ok (.aload_n 0, 1) := by decide +kernel
theorem dX11_laysItemGap_21 : decode cX11_laysItemGap 21 = .ok (.iload_n 2, 1) := by decide +kernel
theorem dX11_laysItemGap_22 : decode cX11_laysItemGap 22 = .ok (.invokevirtual 263, 3) := by decide +kernel
theorem dX11_laysItemGap_25 : decode cX11_laysItemGap 25 = .ok (.aload_n 0, 1) := by decide +kernel
theorem dX11_laysItemGap_26 : decode cX11_laysItemGap 26 = .ok (.iload_n 1, 1) := by decide +kernel
theorem dX11_laysItemGap_27 : decode cX11_laysItemGap 27 = .ok (.invokevirtual 263, 3) := by decide +kernel
theorem dX11_laysItemGap_30 : decode cX11_laysItemGap 30 = .ok (.isub, 1) := by decide +kernel
theorem dX11_laysItemGap_31 : decode cX11_laysItemGap 31 = .ok (.invokevirtual 242, 3) := by decide +kernel
theorem dX11_laysItemGap_34 : decode cX11_laysItemGap 34 = .ok (.return_, 1) := by decide +kernel
abbrev rmX11_laysItemGap : Room := { frames := 6, cells := 0, slots := 0, locals := 240 }
abbrev sX11_laysItemGap (E : EV) : List AV → AH → (Option AV → AH → Prop) → Prop := Spec E yX11_laysItemGap cX11_laysItemGap 3 none rmX11_laysItemGap
theorem mX11_laysItemGap : Mt yX11_laysItemGap cX11_laysItemGap 3 none 2 := ⟨k1388, k12, by decide +kernel⟩
theorem vX11_laysItemGap : MtV yX11_laysItemGap 11 := ⟨k1387, kp79, by decide, (RX11, TX11, 26), rfl, rfl⟩
def PX11_laysItemGap_0 (E : EV) (post : Option AV → AH → Prop) (h : AH) (l0 : Option Nat) (l1 : Int32) (l2 : Int32) : Prop :=
  CS (sX11_itemShape E) [aI l1] h (kI fun x1 h2 => CS (sX11_itemShape E) [aI l2] h2 (kI fun x3 h4 => CV (sX11_itemX E) l0 11 [aI l2] h4 (kI fun x5 h6 => CV (sX11_itemX E) l0 11 [aI l1] h6 (kI fun x7 h8 => CV (sX11_itemY E) l0 11 [aI l2] h8 (kI fun x9 h10 => CV (sX11_itemY E) l0 11 [aI l1] h10 (kI fun x11 h12 => CV (sX11_laysGap E) l0 11 [aI x1, aI x3, aI (x5 - x7), aI (x9 - x11)] h12 (kV fun h14 => post none h14)))))))
theorem bX11_laysItemGap_0 {E : EV} {X : AX} {post : Option AV → AH → Prop} (C : Cb E X cX11_laysItemGap RX11 3 rmX11_laysItemGap) (D : Cr E X none rmX11_laysItemGap "laysItemGap" post) {h : AH} {l0 : Option Nat} {l1 : Int32} {l2 : Int32} (w : PX11_laysItemGap_0 E post h l0 l1 l2) : Go E X 3 0 0 0 [(0, aP l0), (1, aI l1), (2, aI l2)] [] h := by
  unfold PX11_laysItemGap_0 at w
  refine r_aload_n C dX11_laysItemGap_0 rfl 0 rfl ?_
  refine r_iload_n C dX11_laysItemGap_1 rfl 1 rfl ?_
  refine r_csI (rm' := rmX11_itemShape) C mX11_itemShape vX11_itemShape k1281 [aI l1] [aP l0] rfl rfl (Nat.le_of_ble_eq_true rfl) (by decide) ⟨Nat.zero_le _, Nat.zero_le _⟩ 0 0 rfl rfl dX11_laysItemGap_2 w (fun x1 h2 w => ?_)
  refine r_iload_n C dX11_laysItemGap_5 rfl 2 rfl ?_
  refine r_csI (rm' := rmX11_itemShape) C mX11_itemShape vX11_itemShape k1281 [aI l2] [aI x1, aP l0] rfl rfl (Nat.le_of_ble_eq_true rfl) (by decide) ⟨Nat.zero_le _, Nat.zero_le _⟩ 0 0 rfl rfl dX11_laysItemGap_6 w (fun x3 h4 w => ?_)
  refine r_aload_n C dX11_laysItemGap_9 rfl 0 rfl ?_
  refine r_iload_n C dX11_laysItemGap_10 rfl 2 rfl ?_
  refine r_cvI (rm' := rmX11_itemX) C mX11_itemX vX11_itemX k1284 [aI l2] [aI x3, aI x1, aP l0] rfl rfl (Nat.le_of_ble_eq_true rfl) (by decide) ⟨Nat.zero_le _, Nat.zero_le _⟩ 0 0 rfl rfl dX11_laysItemGap_11 w (fun x5 h6 w => ?_)
  refine r_aload_n C dX11_laysItemGap_14 rfl 0 rfl ?_
  refine r_iload_n C dX11_laysItemGap_15 rfl 1 rfl ?_
  refine r_cvI (rm' := rmX11_itemX) C mX11_itemX vX11_itemX k1284 [aI l1] [aI x5, aI x3, aI x1, aP l0] rfl rfl (Nat.le_of_ble_eq_true rfl) (by decide) ⟨Nat.zero_le _, Nat.zero_le _⟩ 0 0 rfl rfl dX11_laysItemGap_16 w (fun x7 h8 w => ?_)
  refine r_isub C dX11_laysItemGap_19 ?_
  refine r_aload_n C dX11_laysItemGap_20 rfl 0 rfl ?_
  refine r_iload_n C dX11_laysItemGap_21 rfl 2 rfl ?_
  refine r_cvI (rm' := rmX11_itemY) C mX11_itemY vX11_itemY k1288 [aI l2] [aI (x5 - x7), aI x3, aI x1, aP l0] rfl rfl (Nat.le_of_ble_eq_true rfl) (by decide) ⟨Nat.zero_le _, Nat.zero_le _⟩ 0 0 rfl rfl dX11_laysItemGap_22 w (fun x9 h10 w => ?_)
  refine r_aload_n C dX11_laysItemGap_25 rfl 0 rfl ?_
  refine r_iload_n C dX11_laysItemGap_26 rfl 1 rfl ?_
  refine r_cvI (rm' := rmX11_itemY) C mX11_itemY vX11_itemY k1288 [aI l1] [aI x9, aI (x5 - x7), aI x3, aI x1, aP l0] rfl rfl (Nat.le_of_ble_eq_true rfl) (by decide) ⟨Nat.zero_le _, Nat.zero_le _⟩ 0 0 rfl rfl dX11_laysItemGap_27 w (fun x11 h12 w => ?_)
  refine r_isub C dX11_laysItemGap_30 ?_
  refine r_cvV (rm' := rmX11_laysGap) C mX11_laysGap vX11_laysGap k1245 [aI x1, aI x3, aI (x5 - x7), aI (x9 - x11)] [] rfl rfl (Nat.le_of_ble_eq_true rfl) (by decide) ⟨Nat.zero_le _, Nat.zero_le _⟩ 0 0 rfl rfl dX11_laysItemGap_31 w (fun h14 w => ?_)
  exact r_vret C D rfl (Nat.zero_le _) (Nat.zero_le _) dX11_laysItemGap_34 w
theorem eX11_laysItemGap {E : EV} {post : Option AV → AH → Prop} {h : AH} {l0 : Option Nat} {l1 : Int32} {l2 : Int32} (w : PX11_laysItemGap_0 E post h l0 l1 l2) : sX11_laysItemGap E [aP l0, aI l1, aI l2] h post := Spec.of RX11 rfl rfl (Nat.le_of_ble_eq_true rfl) fun X C D => bX11_laysItemGap_0 C D w
theorem dX11_closestPair_0 : decode cX11_closestPair 0 = .ok (.ldc 226, 2) := by decide +kernel
theorem dX11_closestPair_2 : decode cX11_closestPair 2 = .ok (.istore_n 1, 1) := by decide +kernel
theorem dX11_closestPair_3 : decode cX11_closestPair 3 = .ok (.lconst 0, 1) := by decide +kernel
theorem dX11_closestPair_4 : decode cX11_closestPair 4 = .ok (.lstore_n 2, 1) := by decide +kernel
theorem dX11_closestPair_5 : decode cX11_closestPair 5 = .ok (.lconst 1, 1) := by decide +kernel
theorem dX11_closestPair_6 : decode cX11_closestPair 6 = .ok (.lstore 4, 2) := by decide +kernel
theorem dX11_closestPair_8 : decode cX11_closestPair 8 = .ok (.iconst 0, 1) := by decide +kernel
theorem dX11_closestPair_9 : decode cX11_closestPair 9 = .ok (.istore 6, 2) := by decide +kernel
theorem dX11_closestPair_11 : decode cX11_closestPair 11 = .ok (.iload 6, 2) := by decide +kernel
theorem dX11_closestPair_13 : decode cX11_closestPair 13 = .ok (.aload_n 0, 1) := by decide +kernel
theorem dX11_closestPair_14 : decode cX11_closestPair 14 = .ok (.getfield 7, 3) := by decide +kernel
theorem dX11_closestPair_17 : decode cX11_closestPair 17 = .ok (.iconst 3, 1) := by decide +kernel
theorem dX11_closestPair_18 : decode cX11_closestPair 18 = .ok (.iaload, 1) := by decide +kernel
theorem dX11_closestPair_19 : decode cX11_closestPair 19 = .ok (.if_icmp .ge 118, 3) := by decide +kernel
theorem dX11_closestPair_22 : decode cX11_closestPair 22 = .ok (.iload 6, 2) := by decide +kernel
theorem dX11_closestPair_24 : decode cX11_closestPair 24 = .ok (.iconst 1, 1) := by decide +kernel
theorem dX11_closestPair_25 : decode cX11_closestPair 25 = .ok (.iadd, 1) := by decide +kernel
theorem dX11_closestPair_26 : decode cX11_closestPair 26 = .ok (.istore 7, 2) := by decide +kernel
theorem dX11_closestPair_28 : decode cX11_closestPair 28 = .ok (.iload 7, 2) := by decide +kernel
theorem dX11_closestPair_30 : decode cX11_closestPair 30 = .ok (.aload_n 0, 1) := by decide +kernel
theorem dX11_closestPair_31 : decode cX11_closestPair 31 = .ok (.getfield 7, 3) := by decide +kernel
theorem dX11_closestPair_34 : decode cX11_closestPair 34 = .ok (.iconst 3, 1) := by decide +kernel
theorem dX11_closestPair_35 : decode cX11_closestPair 35 = .ok (.iaload, 1) := by decide +kernel
theorem dX11_closestPair_36 : decode cX11_closestPair 36 = .ok (.if_icmp .ge 95, 3) := by decide +kernel
theorem dX11_closestPair_39 : decode cX11_closestPair 39 = .ok (.aload_n 0, 1) := by decide +kernel
theorem dX11_closestPair_40 : decode cX11_closestPair 40 = .ok (.iload 6, 2) := by decide +kernel
theorem dX11_closestPair_42 : decode cX11_closestPair 42 = .ok (.iload 7, 2) := by decide +kernel
theorem dX11_closestPair_44 : decode cX11_closestPair 44 = .ok (.invokevirtual 307, 3) := by decide +kernel
theorem dX11_closestPair_47 : decode cX11_closestPair 47 = .ok (.iload_n 1, 1) := by decide +kernel
theorem dX11_closestPair_48 : decode cX11_closestPair 48 = .ok (.ldc 226, 2) := by decide +kernel
theorem dX11_closestPair_50 : decode cX11_closestPair 50 = .ok (.if_icmp .eq 20, 3) := by decide +kernel
theorem dX11_closestPair_53 : decode cX11_closestPair 53 = .ok (.aload_n 0, 1) := by decide +kernel
theorem dX11_closestPair_54 : decode cX11_closestPair 54 = .ok (.getfield 111, 3) := by decide +kernel
theorem dX11_closestPair_57 : decode cX11_closestPair 57 = .ok (.lload 4, 2) := by decide +kernel
theorem dX11_closestPair_59 : decode cX11_closestPair 59 = .ok (.lmul, 1) := by decide +kernel
theorem dX11_closestPair_60 : decode cX11_closestPair 60 = .ok (.lload_n 2, 1) := by decide +kernel
theorem dX11_closestPair_61 : decode cX11_closestPair 61 = .ok (.aload_n 0, 1) := by decide +kernel
theorem dX11_closestPair_62 : decode cX11_closestPair 62 = .ok (.getfield 107, 3) := by decide +kernel
theorem dX11_closestPair_65 : decode cX11_closestPair 65 = .ok (.lmul, 1) := by decide +kernel
theorem dX11_closestPair_66 : decode cX11_closestPair 66 = .ok (.lcmp, 1) := by decide +kernel
theorem dX11_closestPair_67 : decode cX11_closestPair 67 = .ok (.ifCond .ge 7, 3) := by decide +kernel
theorem dX11_closestPair_70 : decode cX11_closestPair 70 = .ok (.iconst 1, 1) := by decide +kernel
theorem dX11_closestPair_71 : decode cX11_closestPair 71 = .ok (.goto 4, 3) := by decide +kernel
theorem dX11_closestPair_74 : decode cX11_closestPair 74 = .ok (.iconst 0, 1) := by decide +kernel
theorem dX11_closestPair_75 : decode cX11_closestPair 75 = .ok (.istore 8, 2) := by decide +kernel
theorem dX11_closestPair_77 : decode cX11_closestPair 77 = .ok (.iload 8, 2) := by decide +kernel
theorem dX11_closestPair_79 : decode cX11_closestPair 79 = .ok (.ifCond .eq 14, 3) := by decide +kernel
theorem dX11_closestPair_82 : decode cX11_closestPair 82 = .ok (.bipush 10, 2) := by decide +kernel
theorem dX11_closestPair_84 : decode cX11_closestPair 84 = .ok (.iload 6, 2) := by decide +kernel
theorem dX11_closestPair_86 : decode cX11_closestPair 86 = .ok (.imul, 1) := by decide +kernel
theorem dX11_closestPair_87 : decode cX11_closestPair 87 = .ok (.iload 7, 2) := by decide +kernel
theorem dX11_closestPair_89 : decode cX11_closestPair 89 = .ok (.iadd, 1) := by decide +kernel
theorem dX11_closestPair_90 : decode cX11_closestPair 90 = .ok (.goto 4, 3) := by decide +kernel
theorem dX11_closestPair_93 : decode cX11_closestPair 93 = .ok (.iload_n 1, 1) := by decide +kernel
theorem dX11_closestPair_94 : decode cX11_closestPair 94 = .ok (.istore_n 1, 1) := by decide +kernel
theorem dX11_closestPair_95 : decode cX11_closestPair 95 = .ok (.iload 8, 2) := by decide +kernel
theorem dX11_closestPair_97 : decode cX11_closestPair 97 = .ok (.ifCond .eq 10, 3) := by decide +kernel
theorem dX11_closestPair_100 : decode cX11_closestPair 100 = .ok (.aload_n 0, 1) := by decide +kernel
theorem dX11_closestPair_101 : decode cX11_closestPair 101 = .ok (.getfield 111, 3) := by decide +kernel
theorem dX11_closestPair_104 : decode cX11_closestPair 104 = .ok (.goto 4, 3) := by decide +kernel
theorem dX11_closestPair_107 : decode cX11_closestPair 107 = .ok (.lload_n 2, 1) := by decide +kernel
theorem dX11_closestPair_108 : decode cX11_closestPair 108 = .ok (.lstore_n 2, 1) := by decide +kernel
theorem dX11_closestPair_109 : decode cX11_closestPair 109 = .ok (.iload 8, 2) := by decide +kernel
theorem dX11_closestPair_111 : decode cX11_closestPair 111 = .ok (.ifCond .eq 10, 3) := by decide +kernel
theorem dX11_closestPair_114 : decode cX11_closestPair 114 = .ok (.aload_n 0, 1) := by decide +kernel
theorem dX11_closestPair_115 : decode cX11_closestPair 115 = .ok (.getfield 107, 3) := by decide +kernel
theorem dX11_closestPair_118 : decode cX11_closestPair 118 = .ok (.goto 5, 3) := by decide +kernel
theorem dX11_closestPair_121 : decode cX11_closestPair 121 = .ok (.lload 4, 2) := by decide +kernel
theorem dX11_closestPair_123 : decode cX11_closestPair 123 = .ok (.lstore 4, 2) := by decide +kernel
theorem dX11_closestPair_125 : decode cX11_closestPair 125 = .ok (.iinc 7 1, 3) := by decide +kernel
theorem dX11_closestPair_128 : decode cX11_closestPair 128 = .ok (.goto (-100), 3) := by decide +kernel
theorem dX11_closestPair_131 : decode cX11_closestPair 131 = .ok (.iinc 6 1, 3) := by decide +kernel
theorem dX11_closestPair_134 : decode cX11_closestPair 134 = .ok (.goto (-123), 3) := by decide +kernel
theorem dX11_closestPair_137 : decode cX11_closestPair 137 = .ok (.iload_n 1, 1) := by decide +kernel
theorem dX11_closestPair_138 : decode cX11_closestPair 138 = .ok (.ireturn, 1) := by decide +kernel
abbrev rmX11_closestPair : Room := { frames := 7, cells := 0, slots := 0, locals := 280 }
abbrev sX11_closestPair (E : EV) : List AV → AH → (Option AV → AH → Prop) → Prop := Spec E yX11_closestPair cX11_closestPair 9 (some .int) rmX11_closestPair
theorem mX11_closestPair : Mt yX11_closestPair cX11_closestPair 9 (some .int) 0 := ⟨k1392, k12, by decide +kernel⟩
theorem vX11_closestPair : MtV yX11_closestPair 11 := ⟨k1390, k1391, by decide, (RX11, TX11, 26), rfl, rfl⟩
def PX11_closestPair_108 (E : EV) (post : Option AV → AH → Prop) (J28 : AH → Option Nat → Int32 → Int64 → Int64 → Int32 → Int32 → Prop) (h : AH) (l0 : Option Nat) (l1 : Int32) (l4 : Int64) (l6 : Int32) (l7 : Int32) (l8 : Int32) (s0 : Int64) : Prop :=
  (l8 = 0 → J28 h l0 l1 s0 l4 l6 (l7 + (1 : Int32))) ∧ (¬ l8 = 0 → rdJ h l0 11 8 fun x2 => J28 h l0 l1 s0 x2 l6 (l7 + (1 : Int32)))
theorem bX11_closestPair_108 {E : EV} {X : AX} {post : Option AV → AH → Prop} (C : Cb E X cX11_closestPair RX11 9 rmX11_closestPair) (D : Cr E X (some .int) rmX11_closestPair "closestPair" post) {J28 : AH → Option Nat → Int32 → Int64 → Int64 → Int32 → Int32 → Prop} (g28 : ∀ (h : AH) (l0 : Option Nat) (l1 : Int32) (l2 : Int64) (l4 : Int64) (l6 : Int32) (l7 : Int32), J28 h l0 l1 l2 l4 l6 l7 → Go E X 9 0 0 28 [(0, aP l0), (1, aI l1), (2, aJ l2), (4, aJ l4), (6, aI l6), (7, aI l7)] [] h) {h : AH} {l0 : Option Nat} {l1 : Int32} {l4 : Int64} {l6 : Int32} {l7 : Int32} {l8 : Int32} {s0 : Int64} (w : PX11_closestPair_108 E post J28 h l0 l1 l4 l6 l7 l8 s0) : Go E X 9 0 0 108 [(0, aP l0), (1, aI l1), (4, aJ l4), (6, aI l6), (7, aI l7), (8, aI l8)] [aJ s0] h := by
  unfold PX11_closestPair_108 at w
  refine r_lstore_n C dX11_closestPair_108 rfl (by decide) rfl ?_
  refine r_iload C dX11_closestPair_109 6 rfl ?_
  refine r_if_eq C dX11_closestPair_111 (tgt := 121) rfl (fun hc => ?_) (fun hc => ?_)
  · have w := w.1 hc
    refine r_lload C dX11_closestPair_121 3 rfl ?_
    refine r_lstore C dX11_closestPair_123 (by decide) rfl ?_
    refine r_iinc C dX11_closestPair_125 5 rfl (v := 1) rfl (by decide) rfl ?_
    refine r_goto C dX11_closestPair_128 (tgt := 28) rfl ?_
    exact r_sub [3, 4, 2, 1, 5, 0] rfl (g28 h l0 l1 s0 l4 l6 (l7 + (1 : Int32)) w)
  · have w := w.2 hc
    refine r_aload_n C dX11_closestPair_114 rfl 1 rfl ?_
    refine r_getJ C fcX11 (f := 8) (by decide) rfl k951 dX11_closestPair_115 (w.mono fun x2 w => ?_)
    refine r_goto C dX11_closestPair_118 (tgt := 123) rfl ?_
    refine r_lstore C dX11_closestPair_123 (by decide) rfl ?_
    refine r_iinc C dX11_closestPair_125 5 rfl (v := 1) rfl (by decide) rfl ?_
    refine r_goto C dX11_closestPair_128 (tgt := 28) rfl ?_
    exact r_sub [3, 4, 2, 1, 5, 0] rfl (g28 h l0 l1 s0 x2 l6 (l7 + (1 : Int32)) w)
def PX11_closestPair_94 (E : EV) (post : Option AV → AH → Prop) (J28 : AH → Option Nat → Int32 → Int64 → Int64 → Int32 → Int32 → Prop) (h : AH) (l0 : Option Nat) (l2 : Int64) (l4 : Int64) (l6 : Int32) (l7 : Int32) (l8 : Int32) (s0 : Int32) : Prop :=
  (l8 = 0 → PX11_closestPair_108 E post J28 h l0 s0 l4 l6 l7 l8 l2) ∧ (¬ l8 = 0 → rdJ h l0 11 7 fun x2 => PX11_closestPair_108 E post J28 h l0 s0 l4 l6 l7 l8 x2)
theorem bX11_closestPair_94 {E : EV} {X : AX} {post : Option AV → AH → Prop} (C : Cb E X cX11_closestPair RX11 9 rmX11_closestPair) (D : Cr E X (some .int) rmX11_closestPair "closestPair" post) {J28 : AH → Option Nat → Int32 → Int64 → Int64 → Int32 → Int32 → Prop} (g28 : ∀ (h : AH) (l0 : Option Nat) (l1 : Int32) (l2 : Int64) (l4 : Int64) (l6 : Int32) (l7 : Int32), J28 h l0 l1 l2 l4 l6 l7 → Go E X 9 0 0 28 [(0, aP l0), (1, aI l1), (2, aJ l2), (4, aJ l4), (6, aI l6), (7, aI l7)] [] h) {h : AH} {l0 : Option Nat} {l2 : Int64} {l4 : Int64} {l6 : Int32} {l7 : Int32} {l8 : Int32} {s0 : Int32} (w : PX11_closestPair_94 E post J28 h l0 l2 l4 l6 l7 l8 s0) : Go E X 9 0 0 94 [(0, aP l0), (2, aJ l2), (4, aJ l4), (6, aI l6), (7, aI l7), (8, aI l8)] [aI s0] h := by
  unfold PX11_closestPair_94 at w
  refine r_istore_n C dX11_closestPair_94 rfl (by decide) rfl ?_
  refine r_iload C dX11_closestPair_95 6 rfl ?_
  refine r_if_eq C dX11_closestPair_97 (tgt := 107) rfl (fun hc => ?_) (fun hc => ?_)
  · have w := w.1 hc
    refine r_lload_n C dX11_closestPair_107 rfl 2 rfl ?_
    exact r_sub [1, 0, 3, 4, 5, 6] rfl (bX11_closestPair_108 C D g28 w)
  · have w := w.2 hc
    refine r_aload_n C dX11_closestPair_100 rfl 1 rfl ?_
    refine r_getJ C fcX11 (f := 7) (by decide) rfl k950 dX11_closestPair_101 (w.mono fun x2 w => ?_)
    refine r_goto C dX11_closestPair_104 (tgt := 108) rfl ?_
    exact r_sub [1, 0, 3, 4, 5, 6] rfl (bX11_closestPair_108 C D g28 w)
def PX11_closestPair_75 (E : EV) (post : Option AV → AH → Prop) (J28 : AH → Option Nat → Int32 → Int64 → Int64 → Int32 → Int32 → Prop) (h : AH) (l0 : Option Nat) (l1 : Int32) (l2 : Int64) (l4 : Int64) (l6 : Int32) (l7 : Int32) (s0 : Int32) : Prop :=
  (s0 = 0 → PX11_closestPair_94 E post J28 h l0 l2 l4 l6 l7 s0 l1) ∧ (¬ s0 = 0 → PX11_closestPair_94 E post J28 h l0 l2 l4 l6 l7 s0 (((10 : Int32) * l6) + l7))
theorem bX11_closestPair_75 {E : EV} {X : AX} {post : Option AV → AH → Prop} (C : Cb E X cX11_closestPair RX11 9 rmX11_closestPair) (D : Cr E X (some .int) rmX11_closestPair "closestPair" post) {J28 : AH → Option Nat → Int32 → Int64 → Int64 → Int32 → Int32 → Prop} (g28 : ∀ (h : AH) (l0 : Option Nat) (l1 : Int32) (l2 : Int64) (l4 : Int64) (l6 : Int32) (l7 : Int32), J28 h l0 l1 l2 l4 l6 l7 → Go E X 9 0 0 28 [(0, aP l0), (1, aI l1), (2, aJ l2), (4, aJ l4), (6, aI l6), (7, aI l7)] [] h) {h : AH} {l0 : Option Nat} {l1 : Int32} {l2 : Int64} {l4 : Int64} {l6 : Int32} {l7 : Int32} {s0 : Int32} (w : PX11_closestPair_75 E post J28 h l0 l1 l2 l4 l6 l7 s0) : Go E X 9 0 0 75 [(0, aP l0), (1, aI l1), (2, aJ l2), (4, aJ l4), (6, aI l6), (7, aI l7)] [aI s0] h := by
  unfold PX11_closestPair_75 at w
  refine r_istore C dX11_closestPair_75 (by decide) rfl ?_
  refine r_iload C dX11_closestPair_77 0 rfl ?_
  refine r_if_eq C dX11_closestPair_79 (tgt := 93) rfl (fun hc => ?_) (fun hc => ?_)
  · have w := w.1 hc
    refine r_iload_n C dX11_closestPair_93 rfl 2 rfl ?_
    exact r_sub [1, 3, 4, 5, 6, 0] rfl (bX11_closestPair_94 C D g28 w)
  · have w := w.2 hc
    refine r_bipush (v := 10) C dX11_closestPair_82 rfl ?_
    refine r_iload C dX11_closestPair_84 5 rfl ?_
    refine r_imul C dX11_closestPair_86 ?_
    refine r_iload C dX11_closestPair_87 6 rfl ?_
    refine r_iadd C dX11_closestPair_89 ?_
    refine r_goto C dX11_closestPair_90 (tgt := 94) rfl ?_
    exact r_sub [1, 3, 4, 5, 6, 0] rfl (bX11_closestPair_94 C D g28 w)
def PX11_closestPair_70 (E : EV) (post : Option AV → AH → Prop) (J28 : AH → Option Nat → Int32 → Int64 → Int64 → Int32 → Int32 → Prop) (h : AH) (l0 : Option Nat) (l1 : Int32) (l2 : Int64) (l4 : Int64) (l6 : Int32) (l7 : Int32) : Prop :=
  PX11_closestPair_75 E post J28 h l0 l1 l2 l4 l6 l7 (1 : Int32)
theorem bX11_closestPair_70 {E : EV} {X : AX} {post : Option AV → AH → Prop} (C : Cb E X cX11_closestPair RX11 9 rmX11_closestPair) (D : Cr E X (some .int) rmX11_closestPair "closestPair" post) {J28 : AH → Option Nat → Int32 → Int64 → Int64 → Int32 → Int32 → Prop} (g28 : ∀ (h : AH) (l0 : Option Nat) (l1 : Int32) (l2 : Int64) (l4 : Int64) (l6 : Int32) (l7 : Int32), J28 h l0 l1 l2 l4 l6 l7 → Go E X 9 0 0 28 [(0, aP l0), (1, aI l1), (2, aJ l2), (4, aJ l4), (6, aI l6), (7, aI l7)] [] h) {h : AH} {l0 : Option Nat} {l1 : Int32} {l2 : Int64} {l4 : Int64} {l6 : Int32} {l7 : Int32} (w : PX11_closestPair_70 E post J28 h l0 l1 l2 l4 l6 l7) : Go E X 9 0 0 70 [(0, aP l0), (1, aI l1), (2, aJ l2), (4, aJ l4), (6, aI l6), (7, aI l7)] [] h := by
  unfold PX11_closestPair_70 at w
  refine r_iconst (v := 1) C dX11_closestPair_70 rfl ?_
  refine r_goto C dX11_closestPair_71 (tgt := 75) rfl ?_
  exact (bX11_closestPair_75 C D g28 w)
def PX11_closestPair_28 (E : EV) (post : Option AV → AH → Prop) (J11 : AH → Option Nat → Int32 → Int64 → Int64 → Int32 → Prop) (J28 : AH → Option Nat → Int32 → Int64 → Int64 → Int32 → Int32 → Prop) (h : AH) (l0 : Option Nat) (l1 : Int32) (l2 : Int64) (l4 : Int64) (l6 : Int32) (l7 : Int32) : Prop :=
  rdP h l0 11 0 fun x1 => aldI h x1 0 (3 : Int32) fun x2 => (x2 ≤ l7 → J11 h l0 l1 l2 l4 (l6 + (1 : Int32))) ∧ (¬ x2 ≤ l7 → CV (sX11_laysItemGap E) l0 11 [aI l6, aI l7] h (kV fun h4 => (l1 = (-1000009 : Int32) → PX11_closestPair_70 E post J28 h4 l0 l1 l2 l4 l6 l7) ∧ (¬ l1 = (-1000009 : Int32) → rdJ h4 l0 11 7 fun x5 => rdJ h4 l0 11 8 fun x6 => (0 ≤ (lg_cmp (x5 * l4) (l2 * x6)) → PX11_closestPair_75 E post J28 h4 l0 l1 l2 l4 l6 l7 (0 : Int32)) ∧ (¬ 0 ≤ (lg_cmp (x5 * l4) (l2 * x6)) → PX11_closestPair_70 E post J28 h4 l0 l1 l2 l4 l6 l7))))
theorem bX11_closestPair_28 {E : EV} {X : AX} {post : Option AV → AH → Prop} (C : Cb E X cX11_closestPair RX11 9 rmX11_closestPair) (D : Cr E X (some .int) rmX11_closestPair "closestPair" post) {J11 : AH → Option Nat → Int32 → Int64 → Int64 → Int32 → Prop} (g11 : ∀ (h : AH) (l0 : Option Nat) (l1 : Int32) (l2 : Int64) (l4 : Int64) (l6 : Int32), J11 h l0 l1 l2 l4 l6 → Go E X 9 0 0 11 [(0, aP l0), (1, aI l1), (2, aJ l2), (4, aJ l4), (6, aI l6)] [] h) {J28 : AH → Option Nat → Int32 → Int64 → Int64 → Int32 → Int32 → Prop} (g28 : ∀ (h : AH) (l0 : Option Nat) (l1 : Int32) (l2 : Int64) (l4 : Int64) (l6 : Int32) (l7 : Int32), J28 h l0 l1 l2 l4 l6 l7 → Go E X 9 0 0 28 [(0, aP l0), (1, aI l1), (2, aJ l2), (4, aJ l4), (6, aI l6), (7, aI l7)] [] h) {h : AH} {l0 : Option Nat} {l1 : Int32} {l2 : Int64} {l4 : Int64} {l6 : Int32} {l7 : Int32} (w : PX11_closestPair_28 E post J11 J28 h l0 l1 l2 l4 l6 l7) : Go E X 9 0 0 28 [(0, aP l0), (1, aI l1), (2, aJ l2), (4, aJ l4), (6, aI l6), (7, aI l7)] [] h := by
  unfold PX11_closestPair_28 at w
  refine r_iload C dX11_closestPair_28 5 rfl ?_
  refine r_aload_n C dX11_closestPair_30 rfl 0 rfl ?_
  refine r_getP C fcX11 (f := 0) (by decide) rfl k943 dX11_closestPair_31 (w.mono fun x1 w => ?_)
  refine r_iconst (v := 3) C dX11_closestPair_34 rfl ?_
  refine r_iald C dX11_closestPair_35 (w.mono fun x2 w => ?_)
  refine r_icmp_ge C dX11_closestPair_36 (tgt := 131) rfl (fun hc => ?_) (fun hc => ?_)
  · have w := w.1 hc
    refine r_iinc C dX11_closestPair_131 4 rfl (v := 1) rfl (by decide) rfl ?_
    refine r_goto C dX11_closestPair_134 (tgt := 11) rfl ?_
    exact r_sub [1, 2, 3, 4, 0] rfl (g11 h l0 l1 l2 l4 (l6 + (1 : Int32)) w)
  · have w := w.2 hc
    refine r_aload_n C dX11_closestPair_39 rfl 0 rfl ?_
    refine r_iload C dX11_closestPair_40 4 rfl ?_
    refine r_iload C dX11_closestPair_42 5 rfl ?_
    refine r_cvV (rm' := rmX11_laysItemGap) C mX11_laysItemGap vX11_laysItemGap k1385 [aI l6, aI l7] [] rfl rfl (Nat.le_of_ble_eq_true rfl) (by decide) ⟨Nat.zero_le _, Nat.zero_le _⟩ 0 0 rfl rfl dX11_closestPair_44 w (fun h4 w => ?_)
    refine r_iload_n C dX11_closestPair_47 rfl 1 rfl ?_
    refine r_ldc (v := -1000009) C dX11_closestPair_48 k1170 ?_
    refine r_icmp_eq C dX11_closestPair_50 (tgt := 70) rfl (fun hc => ?_) (fun hc => ?_)
    · have w := w.1 hc
      exact (bX11_closestPair_70 C D g28 w)
    · have w := w.2 hc
      refine r_aload_n C dX11_closestPair_53 rfl 0 rfl ?_
      refine r_getJ C fcX11 (f := 7) (by decide) rfl k950 dX11_closestPair_54 (w.mono fun x5 w => ?_)
      refine r_lload C dX11_closestPair_57 3 rfl ?_
      refine r_lmul C dX11_closestPair_59 ?_
      refine r_lload_n C dX11_closestPair_60 rfl 2 rfl ?_
      refine r_aload_n C dX11_closestPair_61 rfl 0 rfl ?_
      refine r_getJ C fcX11 (f := 8) (by decide) rfl k951 dX11_closestPair_62 (w.mono fun x6 w => ?_)
      refine r_lmul C dX11_closestPair_65 ?_
      refine r_lcmp C dX11_closestPair_66 ?_
      refine r_if_ge C dX11_closestPair_67 (tgt := 74) rfl (fun hc => ?_) (fun hc => ?_)
      · have w := w.1 hc
        refine r_iconst (v := 0) C dX11_closestPair_74 rfl ?_
        exact (bX11_closestPair_75 C D g28 w)
      · have w := w.2 hc
        exact (bX11_closestPair_70 C D g28 w)
theorem lpX11_closestPair_28 {E : EV} {X : AX} {post : Option AV → AH → Prop} (C : Cb E X cX11_closestPair RX11 9 rmX11_closestPair) (D : Cr E X (some .int) rmX11_closestPair "closestPair" post) {J11 : AH → Option Nat → Int32 → Int64 → Int64 → Int32 → Prop} (g11 : ∀ (h : AH) (l0 : Option Nat) (l1 : Int32) (l2 : Int64) (l4 : Int64) (l6 : Int32), J11 h l0 l1 l2 l4 l6 → Go E X 9 0 0 11 [(0, aP l0), (1, aI l1), (2, aJ l2), (4, aJ l4), (6, aI l6)] [] h) (I : Nat → AH → Option Nat → Int32 → Int64 → Int64 → Int32 → Int32 → Prop) (step : ∀ (z : Nat) (h : AH) (l0 : Option Nat) (l1 : Int32) (l2 : Int64) (l4 : Int64) (l6 : Int32) (l7 : Int32), I z h l0 l1 l2 l4 l6 l7 → PX11_closestPair_28 E post J11 (fun h l0 l1 l2 l4 l6 l7 => ∃ z', z' < z ∧ I z' h l0 l1 l2 l4 l6 l7) h l0 l1 l2 l4 l6 l7) : ∀ (z : Nat) (h : AH) (l0 : Option Nat) (l1 : Int32) (l2 : Int64) (l4 : Int64) (l6 : Int32) (l7 : Int32), I z h l0 l1 l2 l4 l6 l7 → Go E X 9 0 0 28 [(0, aP l0), (1, aI l1), (2, aJ l2), (4, aJ l4), (6, aI l6), (7, aI l7)] [] h := by
  intro z
  induction z using Nat.strongRecOn with
  | _ z ih =>
    intro h l0 l1 l2 l4 l6 l7 hI
    exact bX11_closestPair_28 C D g11 (fun h l0 l1 l2 l4 l6 l7 hJ => by obtain ⟨z', hz, hi⟩ := hJ; exact ih z' hz h l0 l1 l2 l4 l6 l7 hi) (step z h l0 l1 l2 l4 l6 l7 hI)
def PX11_closestPair_11 (E : EV) (post : Option AV → AH → Prop) (J28 : AH → Option Nat → Int32 → Int64 → Int64 → Int32 → Int32 → Prop) (h : AH) (l0 : Option Nat) (l1 : Int32) (l2 : Int64) (l4 : Int64) (l6 : Int32) : Prop :=
  rdP h l0 11 0 fun x1 => aldI h x1 0 (3 : Int32) fun x2 => (x2 ≤ l6 → post (some (aI l1)) h) ∧ (¬ x2 ≤ l6 → ∀ v3, v3 = (l6 + (1 : Int32)) → J28 h l0 l1 l2 l4 l6 v3)
theorem bX11_closestPair_11 {E : EV} {X : AX} {post : Option AV → AH → Prop} (C : Cb E X cX11_closestPair RX11 9 rmX11_closestPair) (D : Cr E X (some .int) rmX11_closestPair "closestPair" post) {J28 : AH → Option Nat → Int32 → Int64 → Int64 → Int32 → Int32 → Prop} (g28 : ∀ (h : AH) (l0 : Option Nat) (l1 : Int32) (l2 : Int64) (l4 : Int64) (l6 : Int32) (l7 : Int32), J28 h l0 l1 l2 l4 l6 l7 → Go E X 9 0 0 28 [(0, aP l0), (1, aI l1), (2, aJ l2), (4, aJ l4), (6, aI l6), (7, aI l7)] [] h) {h : AH} {l0 : Option Nat} {l1 : Int32} {l2 : Int64} {l4 : Int64} {l6 : Int32} (w : PX11_closestPair_11 E post J28 h l0 l1 l2 l4 l6) : Go E X 9 0 0 11 [(0, aP l0), (1, aI l1), (2, aJ l2), (4, aJ l4), (6, aI l6)] [] h := by
  unfold PX11_closestPair_11 at w
  refine r_iload C dX11_closestPair_11 4 rfl ?_
  refine r_aload_n C dX11_closestPair_13 rfl 0 rfl ?_
  refine r_getP C fcX11 (f := 0) (by decide) rfl k943 dX11_closestPair_14 (w.mono fun x1 w => ?_)
  refine r_iconst (v := 3) C dX11_closestPair_17 rfl ?_
  refine r_iald C dX11_closestPair_18 (w.mono fun x2 w => ?_)
  refine r_icmp_ge C dX11_closestPair_19 (tgt := 137) rfl (fun hc => ?_) (fun hc => ?_)
  · have w := w.1 hc
    refine r_iload_n C dX11_closestPair_137 rfl 1 rfl ?_
    exact r_iret C D rfl (Nat.zero_le _) (Nat.zero_le _) dX11_closestPair_138 w
  · have w := w.2 hc
    refine r_iload C dX11_closestPair_22 4 rfl ?_
    refine r_iconst (v := 1) C dX11_closestPair_24 rfl ?_
    refine r_iadd C dX11_closestPair_25 ?_
    refine r_istore C dX11_closestPair_26 (by decide) rfl ?_
    have w := w _ rfl
    skip
    exact r_sub [1, 2, 3, 4, 5, 0] rfl (g28 h l0 l1 l2 l4 l6 (l6 + (1 : Int32)) w)
def PX11_closestPair_0 (E : EV) (post : Option AV → AH → Prop) (J11 : AH → Option Nat → Int32 → Int64 → Int64 → Int32 → Prop) (h : AH) (l0 : Option Nat) : Prop :=
  J11 h l0 (-1000009 : Int32) (0 : Int64) (1 : Int64) (0 : Int32)
theorem bX11_closestPair_0 {E : EV} {X : AX} {post : Option AV → AH → Prop} (C : Cb E X cX11_closestPair RX11 9 rmX11_closestPair) (D : Cr E X (some .int) rmX11_closestPair "closestPair" post) {J11 : AH → Option Nat → Int32 → Int64 → Int64 → Int32 → Prop} (g11 : ∀ (h : AH) (l0 : Option Nat) (l1 : Int32) (l2 : Int64) (l4 : Int64) (l6 : Int32), J11 h l0 l1 l2 l4 l6 → Go E X 9 0 0 11 [(0, aP l0), (1, aI l1), (2, aJ l2), (4, aJ l4), (6, aI l6)] [] h) {h : AH} {l0 : Option Nat} (w : PX11_closestPair_0 E post J11 h l0) : Go E X 9 0 0 0 [(0, aP l0)] [] h := by
  unfold PX11_closestPair_0 at w
  refine r_ldc (v := -1000009) C dX11_closestPair_0 k1170 ?_
  refine r_istore_n C dX11_closestPair_2 rfl (by decide) rfl ?_
  refine r_lconst (v := 0) C dX11_closestPair_3 rfl ?_
  refine r_lstore_n C dX11_closestPair_4 rfl (by decide) rfl ?_
  refine r_lconst (v := 1) C dX11_closestPair_5 rfl ?_
  refine r_lstore C dX11_closestPair_6 (by decide) rfl ?_
  refine r_iconst (v := 0) C dX11_closestPair_8 rfl ?_
  refine r_istore C dX11_closestPair_9 (by decide) rfl ?_
  exact r_sub [4, 3, 2, 1, 0] rfl (g11 h l0 (-1000009 : Int32) (0 : Int64) (1 : Int64) (0 : Int32) w)
theorem eX11_closestPair {E : EV} {post : Option AV → AH → Prop} {h : AH} {l0 : Option Nat} {J11 : AH → Option Nat → Int32 → Int64 → Int64 → Int32 → Prop} (g11 : ∀ X : AX, Cb E X cX11_closestPair RX11 9 rmX11_closestPair → Cr E X (some .int) rmX11_closestPair "closestPair" post → ∀ (h : AH) (l0 : Option Nat) (l1 : Int32) (l2 : Int64) (l4 : Int64) (l6 : Int32), J11 h l0 l1 l2 l4 l6 → Go E X 9 0 0 11 [(0, aP l0), (1, aI l1), (2, aJ l2), (4, aJ l4), (6, aI l6)] [] h) (w : PX11_closestPair_0 E post J11 h l0) : sX11_closestPair E [aP l0] h post := Spec.of RX11 rfl rfl (Nat.le_of_ble_eq_true rfl) fun X C D => bX11_closestPair_0 C D (g11 X C D) w
theorem dX11_meets_0 : decode cX11_meets 0 = .ok (.ldc2_w 126, 3) := by decide +kernel
theorem dX11_meets_3 : decode cX11_meets 3 = .ok (.lstore 9, 2) := by decide +kernel
theorem dX11_meets_5 : decode cX11_meets 5 = .ok (.lconst 1, 1) := by decide +kernel
theorem dX11_meets_6 : decode cX11_meets 6 = .ok (.lstore 11, 2) := by decide +kernel
theorem dX11_meets_8 : decode cX11_meets 8 = .ok (.aload_n 0, 1) := by decide +kernel
theorem dX11_meets_9 : decode cX11_meets 9 = .ok (.ldc2_w 128, 3) := by decide +kernel
theorem dX11_meets_12 : decode cX11_meets 12 = .ok (.putfield 130, 3) := by decide +kernel
theorem dX11_meets_15 : decode cX11_meets 15 = .ok (.aload_n 0, 1) := by decide +kernel
theorem dX11_meets_16 : decode cX11_meets 16 = .ok (.lconst 1, 1) := by decide +kernel
theorem dX11_meets_17 : decode cX11_meets 17 = .ok (.putfield 133, 3) := by decide +kernel
theorem dX11_meets_20 : decode cX11_meets 20 = .ok (.iconst 0, 1) := by decide +kernel
theorem dX11_meets_21 : decode cX11_meets 21 = .ok (.istore 13, 2) := by decide +kernel
theorem dX11_meets_23 : decode cX11_meets 23 = .ok (.iload 13, 2) := by decide +kernel
theorem dX11_meets_25 : decode cX11_meets 25 = .ok (.aload_n 0, 1) := by decide +kernel
theorem dX11_meets_26 : decode cX11_meets 26 = .ok (.iload_n 1, 1) := by decide +kernel
theorem dX11_meets_27 : decode cX11_meets 27 = .ok (.iload_n 2, 1) := by decide +kernel
theorem dX11_meets_28 : decode cX11_meets 28 = .ok (.iload_n 3, 1) := by decide +kernel
theorem dX11_meets_29 : decode cX11_meets 29 = .ok (.iload 4, 2) := by decide +kernel
theorem dX11_meets_31 : decode cX11_meets 31 = .ok (.invokevirtual 88, 3) := by decide +kernel
theorem dX11_meets_34 : decode cX11_meets 34 = .ok (.if_icmp .ge 153, 3) := by decide +kernel
theorem dX11_meets_37 : decode cX11_meets 37 = .ok (.aload_n 0, 1) := by decide +kernel
theorem dX11_meets_38 : decode cX11_meets 38 = .ok (.iload_n 1, 1) := by decide +kernel
theorem dX11_meets_39 : decode cX11_meets 39 = .ok (.iload_n 2, 1) := by decide +kernel
theorem dX11_meets_40 : decode cX11_meets 40 = .ok (.iload_n 3, 1) := by decide +kernel
theorem dX11_meets_41 : decode cX11_meets 41 = .ok (.iload 4, 2) := by decide +kernel
theorem dX11_meets_43 : decode cX11_meets 43 = .ok (.iload 13, 2) := by decide +kernel
theorem dX11_meets_45 : decode cX11_meets 45 = .ok (.invokevirtual 91, 3) := by decide +kernel
theorem dX11_meets_48 : decode cX11_meets 48 = .ok (.aload_n 0, 1) := by decide +kernel
theorem dX11_meets_49 : decode cX11_meets 49 = .ok (.iload_n 1, 1) := by decide +kernel
theorem dX11_meets_50 : decode cX11_meets 50 = .ok (.iload_n 2, 1) := by decide +kernel
theorem dX11_meets_51 : decode cX11_meets 51 = .ok (.iload_n 3, 1) := by decide +kernel
theorem dX11_meets_52 : decode cX11_meets 52 = .ok (.iload 4, 2) := by decide +kernel
theorem dX11_meets_54 : decode cX11_meets 54 = .ok (.iconst 0, 1) := by decide +kernel
theorem dX11_meets_55 : decode cX11_meets 55 = .ok (.invokevirtual 95, 3) := by decide +kernel
theorem dX11_meets_58 : decode cX11_meets 58 = .ok (.aload_n 0, 1) := by decide +kernel
theorem dX11_meets_59 : decode cX11_meets 59 = .ok (.getfield 76, 3) := by decide +kernel
theorem dX11_meets_62 : decode cX11_meets 62 = .ok (.iload 5, 2) := by decide +kernel
theorem dX11_meets_64 : decode cX11_meets 64 = .ok (.imul, 1) := by decide +kernel
theorem dX11_meets_65 : decode cX11_meets 65 = .ok (.isub, 1) := by decide +kernel
theorem dX11_meets_66 : decode cX11_meets 66 = .ok (.aload_n 0, 1) := by decide +kernel
theorem dX11_meets_67 : decode cX11_meets 67 = .ok (.getfield 82, 3) := by decide +kernel
theorem dX11_meets_70 : decode cX11_meets 70 = .ok (.iload 6, 2) := by decide +kernel
theorem dX11_meets_72 : decode cX11_meets 72 = .ok (.imul, 1) := by decide +kernel
theorem dX11_meets_73 : decode cX11_meets 73 = .ok (.isub, 1) := by decide +kernel
theorem dX11_meets_74 : decode cX11_meets 74 = .ok (.i2l, 1) := by decide +kernel
theorem dX11_meets_75 : decode cX11_meets 75 = .ok (.lstore 14, 2) := by decide +kernel
theorem dX11_meets_77 : decode cX11_meets 77 = .ok (.aload_n 0, 1) := by decide +kernel
theorem dX11_meets_78 : decode cX11_meets 78 = .ok (.getfield 76, 3) := by decide +kernel
theorem dX11_meets_81 : decode cX11_meets 81 = .ok (.iload 7, 2) := by decide +kernel
theorem dX11_meets_83 : decode cX11_meets 83 = .ok (.imul, 1) := by decide +kernel
theorem dX11_meets_84 : decode cX11_meets 84 = .ok (.aload_n 0, 1) := by decide +kernel
theorem dX11_meets_85 : decode cX11_meets 85 = .ok (.getfield 82, 3) := by decide +kernel
theorem dX11_meets_88 : decode cX11_meets 88 = .ok (.iload 8, 2) := by decide +kernel
theorem dX11_meets_90 : decode cX11_meets 90 = .ok (.imul, 1) := by decide +kernel
theorem dX11_meets_91 : decode cX11_meets 91 = .ok (.iadd, 1) := by decide +kernel
theorem dX11_meets_92 : decode cX11_meets 92 = .ok (.i2l, 1) := by decide +kernel
theorem dX11_meets_93 : decode cX11_meets 93 = .ok (.lstore 16, 2) := by decide +kernel
theorem dX11_meets_95 : decode cX11_meets 95 = .ok (.lload 16, 2) := by decide +kernel
theorem dX11_meets_97 : decode cX11_meets 97 = .ok (.lconst 0, 1) := by decide +kernel
theorem dX11_meets_98 : decode cX11_meets 98 = .ok (.lcmp, 1) := by decide +kernel
theorem dX11_meets_99 : decode cX11_meets 99 = .ok (.ifCond .ne 12, 3) := by decide +kernel
theorem dX11_meets_102 : decode cX11_meets 102 = .ok (.lload 14, 2) := by decide +kernel
theorem dX11_meets_104 : decode cX11_meets 104 = .ok (.lconst 0, 1) := by decide +kernel
theorem dX11_meets_105 : decode cX11_meets 105 = .ok (.lcmp, 1) := by decide +kernel
theorem dX11_meets_106 : decode cX11_meets 106 = .ok (.ifCond .gt 5, 3) := by decide +kernel
theorem dX11_meets_109 : decode cX11_meets 109 = .ok (.iconst 0, 1) := by decide +kernel
theorem dX11_meets_110 : decode cX11_meets 110 = .ok (.ireturn, 1) := by decide +kernel
theorem dX11_meets_111 : decode cX11_meets 111 = .ok (.lload 16, 2) := by decide +kernel
theorem dX11_meets_113 : decode cX11_meets 113 = .ok (.lconst 0, 1) := by decide +kernel
theorem dX11_meets_114 : decode cX11_meets 114 = .ok (.lcmp, 1) := by decide +kernel
theorem dX11_meets_115 : decode cX11_meets 115 = .ok (.ifCond .le 25, 3) := by decide +kernel
theorem dX11_meets_118 : decode cX11_meets 118 = .ok (.lload 14, 2) := by decide +kernel
theorem dX11_meets_120 : decode cX11_meets 120 = .ok (.lload 11, 2) := by decide +kernel
theorem dX11_meets_122 : decode cX11_meets 122 = .ok (.lmul, 1) := by decide +kernel
theorem dX11_meets_123 : decode cX11_meets 123 = .ok (.lload 9, 2) := by decide +kernel
theorem dX11_meets_125 : decode cX11_meets 125 = .ok (.lload 16, 2) := by decide +kernel
theorem dX11_meets_127 : decode cX11_meets 127 = .ok (.lmul, 1) := by decide +kernel
theorem dX11_meets_128 : decode cX11_meets 128 = .ok (.lcmp, 1) := by decide +kernel
theorem dX11_meets_129 : decode cX11_meets 129 = .ok (.ifCond .ge 11, 3) := by decide +kernel
theorem dX11_meets_132 : decode cX11_meets 132 = .ok (.lload 14, 2) := by decide +kernel
theorem dX11_meets_134 : decode cX11_meets 134 = .ok (.lstore 9, 2) := by decide +kernel
theorem dX11_meets_136 : decode cX11_meets 136 = .ok (.lload 16, 2) := by decide +kernel
theorem dX11_meets_138 : decode cX11_meets 138 = .ok (.lstore 11, 2) := by decide +kernel
theorem dX11_meets_140 : decode cX11_meets 140 = .ok (.lload 16, 2) := by decide +kernel
theorem dX11_meets_142 : decode cX11_meets 142 = .ok (.lconst 0, 1) := by decide +kernel
theorem dX11_meets_143 : decode cX11_meets 143 = .ok (.lcmp, 1) := by decide +kernel
theorem dX11_meets_144 : decode cX11_meets 144 = .ok (.ifCond .ge 37, 3) := by decide +kernel
theorem dX11_meets_147 : decode cX11_meets 147 = .ok (.lload 14, 2) := by decide +kernel
theorem dX11_meets_149 : decode cX11_meets 149 = .ok (.lneg, 1) := by decide +kernel
theorem dX11_meets_150 : decode cX11_meets 150 = .ok (.aload_n 0, 1) := by decide +kernel
theorem dX11_meets_151 : decode cX11_meets 151 = .ok (.getfield 133, 3) := by decide +kernel
theorem dX11_meets_154 : decode cX11_meets 154 = .ok (.lmul, 1) := by decide +kernel
theorem dX11_meets_155 : decode cX11_meets 155 = .ok (.aload_n 0, 1) := by decide +kernel
theorem dX11_meets_156 : decode cX11_meets 156 = .ok (.getfield 130, 3) := by decide +kernel
theorem dX11_meets_159 : decode cX11_meets 159 = .ok (.lload 16, 2) := by decide +kernel
theorem dX11_meets_161 : decode cX11_meets 161 = .ok (.lneg, 1) := by decide +kernel
theorem dX11_meets_162 : decode cX11_meets 162 = .ok (.lmul, 1) := by decide +kernel
theorem dX11_meets_163 : decode cX11_meets 163 = .ok (.lcmp, 1) := by decide +kernel
theorem dX11_meets_164 : decode cX11_meets 164 = .ok (.ifCond .le 17, 3) := by decide +kernel
theorem dX11_meets_167 : decode cX11_meets 167 = .ok (.aload_n 0, 1) := by decide +kernel
theorem dX11_meets_168 : decode cX11_meets 168 = .ok (.lload 14, 2) := by decide +kernel
theorem dX11_meets_170 : decode cX11_meets 170 = .ok (.lneg, 1) := by decide +kernel
theorem dX11_meets_171 : decode cX11_meets 171 = .ok (.putfield 130, 3) := by decide +kernel
theorem dX11_meets_174 : decode cX11_meets 174 = .ok (.aload_n 0, 1) := by decide +kernel
theorem dX11_meets_175 : decode cX11_meets 175 = .ok (.lload 16, 2) := by decide +kernel
theorem dX11_meets_177 : decode cX11_meets 177 = .ok (.lneg, 1) := by decide +kernel
theorem dX11_meets_178 : decode cX11_meets 178 = .ok (.putfield 133, 3) := by decide +kernel
theorem dX11_meets_181 : decode cX11_meets 181 = .ok (.iinc 13 1, 3) := by decide +kernel
theorem dX11_meets_184 : decode cX11_meets 184 = .ok (.goto (-161), 3) := by decide +kernel
theorem dX11_meets_187 : decode cX11_meets 187 = .ok (.lload 9, 2) := by decide +kernel
theorem dX11_meets_189 : decode cX11_meets 189 = .ok (.lconst 0, 1) := by decide +kernel
theorem dX11_meets_190 : decode cX11_meets 190 = .ok (.lcmp, 1) := by decide +kernel
theorem dX11_meets_191 : decode cX11_meets 191 = .ok (.ifCond .le 25, 3) := by decide +kernel
theorem dX11_meets_194 : decode cX11_meets 194 = .ok (.aload_n 0, 1) := by decide +kernel
theorem dX11_meets_195 : decode cX11_meets 195 = .ok (.getfield 130, 3) := by decide +kernel
theorem dX11_meets_198 : decode cX11_meets 198 = .ok (.lload 11, 2) := by decide +kernel
theorem dX11_meets_200 : decode cX11_meets 200 = .ok (.lmul, 1) := by decide +kernel
theorem dX11_meets_201 : decode cX11_meets 201 = .ok (.lload 9, 2) := by decide +kernel
theorem dX11_meets_203 : decode cX11_meets 203 = .ok (.aload_n 0, 1) := by decide +kernel
theorem dX11_meets_204 : decode cX11_meets 204 = .ok (.getfield 133, 3) := by decide +kernel
theorem dX11_meets_207 : decode cX11_meets 207 = .ok (.lmul, 1) := by decide +kernel
theorem dX11_meets_208 : decode cX11_meets 208 = .ok (.lcmp, 1) := by decide +kernel
theorem dX11_meets_209 : decode cX11_meets 209 = .ok (.ifCond .ge 7, 3) := by decide +kernel
theorem dX11_meets_212 : decode cX11_meets 212 = .ok (.iconst 1, 1) := by decide +kernel
theorem dX11_meets_213 : decode cX11_meets 213 = .ok (.goto 4, 3) := by decide +kernel
theorem dX11_meets_216 : decode cX11_meets 216 = .ok (.iconst 0, 1) := by decide +kernel
theorem dX11_meets_217 : decode cX11_meets 217 = .ok (.ireturn, 1) := by decide +kernel
abbrev rmX11_meets : Room := { frames := 3, cells := 0, slots := 0, locals := 120 }
abbrev sX11_meets (E : EV) : List AV → AH → (Option AV → AH → Prop) → Prop := Spec E yX11_meets cX11_meets 18 (some .boolean) rmX11_meets
theorem mX11_meets : Mt yX11_meets cX11_meets 18 (some .boolean) 8 := ⟨k1274, k12, by decide +kernel⟩
theorem vX11_meets : MtV yX11_meets 11 := ⟨k1273, kp65, by decide, (RX11, TX11, 26), rfl, rfl⟩
def PX11_meets_140 (E : EV) (post : Option AV → AH → Prop) (J23 : AH → Option Nat → Int32 → Int32 → Int32 → Int32 → Int32 → Int32 → Int32 → Int32 → Int64 → Int64 → Int32 → Prop) (h : AH) (l0 : Option Nat) (l1 : Int32) (l2 : Int32) (l3 : Int32) (l4 : Int32) (l5 : Int32) (l6 : Int32) (l7 : Int32) (l8 : Int32) (l9 : Int64) (l11 : Int64) (l13 : Int32) (l14 : Int64) (l16 : Int64) : Prop :=
  (0 ≤ (lg_cmp l16 (0 : Int64)) → J23 h l0 l1 l2 l3 l4 l5 l6 l7 l8 l9 l11 (l13 + (1 : Int32))) ∧ (¬ 0 ≤ (lg_cmp l16 (0 : Int64)) → rdJ h l0 11 10 fun x1 => rdJ h l0 11 9 fun x2 => ((lg_cmp ((-l14) * x1) (x2 * (-l16))) ≤ 0 → J23 h l0 l1 l2 l3 l4 l5 l6 l7 l8 l9 l11 (l13 + (1 : Int32))) ∧ (¬ (lg_cmp ((-l14) * x1) (x2 * (-l16))) ≤ 0 → wr h l0 11 9 (aJ (-l14)) fun h3 => wr h3 l0 11 10 (aJ (-l16)) fun h4 => J23 h4 l0 l1 l2 l3 l4 l5 l6 l7 l8 l9 l11 (l13 + (1 : Int32))))
theorem bX11_meets_140 {E : EV} {X : AX} {post : Option AV → AH → Prop} (C : Cb E X cX11_meets RX11 18 rmX11_meets) (D : Cr E X (some .boolean) rmX11_meets "meets" post) {J23 : AH → Option Nat → Int32 → Int32 → Int32 → Int32 → Int32 → Int32 → Int32 → Int32 → Int64 → Int64 → Int32 → Prop} (g23 : ∀ (h : AH) (l0 : Option Nat) (l1 : Int32) (l2 : Int32) (l3 : Int32) (l4 : Int32) (l5 : Int32) (l6 : Int32) (l7 : Int32) (l8 : Int32) (l9 : Int64) (l11 : Int64) (l13 : Int32), J23 h l0 l1 l2 l3 l4 l5 l6 l7 l8 l9 l11 l13 → Go E X 18 0 0 23 [(0, aP l0), (1, aI l1), (2, aI l2), (3, aI l3), (4, aI l4), (5, aI l5), (6, aI l6), (7, aI l7), (8, aI l8), (9, aJ l9), (11, aJ l11), (13, aI l13)] [] h) {h : AH} {l0 : Option Nat} {l1 : Int32} {l2 : Int32} {l3 : Int32} {l4 : Int32} {l5 : Int32} {l6 : Int32} {l7 : Int32} {l8 : Int32} {l9 : Int64} {l11 : Int64} {l13 : Int32} {l14 : Int64} {l16 : Int64} (w : PX11_meets_140 E post J23 h l0 l1 l2 l3 l4 l5 l6 l7 l8 l9 l11 l13 l14 l16) : Go E X 18 0 0 140 [(0, aP l0), (1, aI l1), (2, aI l2), (3, aI l3), (4, aI l4), (5, aI l5), (6, aI l6), (7, aI l7), (8, aI l8), (9, aJ l9), (11, aJ l11), (13, aI l13), (14, aJ l14), (16, aJ l16)] [] h := by
  unfold PX11_meets_140 at w
  refine r_lload C dX11_meets_140 13 rfl ?_
  refine r_lconst (v := 0) C dX11_meets_142 rfl ?_
  refine r_lcmp C dX11_meets_143 ?_
  refine r_if_ge C dX11_meets_144 (tgt := 181) rfl (fun hc => ?_) (fun hc => ?_)
  · have w := w.1 hc
    refine r_iinc C dX11_meets_181 11 rfl (v := 1) rfl (by decide) rfl ?_
    refine r_goto C dX11_meets_184 (tgt := 23) rfl ?_
    exact r_sub [1, 2, 3, 4, 5, 6, 7, 8, 9, 10, 11, 0] rfl (g23 h l0 l1 l2 l3 l4 l5 l6 l7 l8 l9 l11 (l13 + (1 : Int32)) w)
  · have w := w.2 hc
    refine r_lload C dX11_meets_147 12 rfl ?_
    refine r_lneg C dX11_meets_149 ?_
    refine r_aload_n C dX11_meets_150 rfl 0 rfl ?_
    refine r_getJ C fcX11 (f := 10) (by decide) rfl k953 dX11_meets_151 (w.mono fun x1 w => ?_)
    refine r_lmul C dX11_meets_154 ?_
    refine r_aload_n C dX11_meets_155 rfl 0 rfl ?_
    refine r_getJ C fcX11 (f := 9) (by decide) rfl k952 dX11_meets_156 (w.mono fun x2 w => ?_)
    refine r_lload C dX11_meets_159 13 rfl ?_
    refine r_lneg C dX11_meets_161 ?_
    refine r_lmul C dX11_meets_162 ?_
    refine r_lcmp C dX11_meets_163 ?_
    refine r_if_le C dX11_meets_164 (tgt := 181) rfl (fun hc => ?_) (fun hc => ?_)
    · have w := w.1 hc
      refine r_iinc C dX11_meets_181 11 rfl (v := 1) rfl (by decide) rfl ?_
      refine r_goto C dX11_meets_184 (tgt := 23) rfl ?_
      exact r_sub [1, 2, 3, 4, 5, 6, 7, 8, 9, 10, 11, 0] rfl (g23 h l0 l1 l2 l3 l4 l5 l6 l7 l8 l9 l11 (l13 + (1 : Int32)) w)
    · have w := w.2 hc
      refine r_aload_n C dX11_meets_167 rfl 0 rfl ?_
      refine r_lload C dX11_meets_168 12 rfl ?_
      refine r_lneg C dX11_meets_170 ?_
      refine r_put C fcX11 (f := 9) (by decide) rfl rfl rfl rfl k952 dX11_meets_171 (w.mono fun h3 w => ?_)
      refine r_aload_n C dX11_meets_174 rfl 0 rfl ?_
      refine r_lload C dX11_meets_175 13 rfl ?_
      refine r_lneg C dX11_meets_177 ?_
      refine r_put C fcX11 (f := 10) (by decide) rfl rfl rfl rfl k953 dX11_meets_178 (w.mono fun h4 w => ?_)
      refine r_iinc C dX11_meets_181 11 rfl (v := 1) rfl (by decide) rfl ?_
      refine r_goto C dX11_meets_184 (tgt := 23) rfl ?_
      exact r_sub [1, 2, 3, 4, 5, 6, 7, 8, 9, 10, 11, 0] rfl (g23 h4 l0 l1 l2 l3 l4 l5 l6 l7 l8 l9 l11 (l13 + (1 : Int32)) w)
def PX11_meets_111 (E : EV) (post : Option AV → AH → Prop) (J23 : AH → Option Nat → Int32 → Int32 → Int32 → Int32 → Int32 → Int32 → Int32 → Int32 → Int64 → Int64 → Int32 → Prop) (h : AH) (l0 : Option Nat) (l1 : Int32) (l2 : Int32) (l3 : Int32) (l4 : Int32) (l5 : Int32) (l6 : Int32) (l7 : Int32) (l8 : Int32) (l9 : Int64) (l11 : Int64) (l13 : Int32) (l14 : Int64) (l16 : Int64) : Prop :=
  ((lg_cmp l16 (0 : Int64)) ≤ 0 → PX11_meets_140 E post J23 h l0 l1 l2 l3 l4 l5 l6 l7 l8 l9 l11 l13 l14 l16) ∧ (¬ (lg_cmp l16 (0 : Int64)) ≤ 0 → (0 ≤ (lg_cmp (l14 * l11) (l9 * l16)) → PX11_meets_140 E post J23 h l0 l1 l2 l3 l4 l5 l6 l7 l8 l9 l11 l13 l14 l16) ∧ (¬ 0 ≤ (lg_cmp (l14 * l11) (l9 * l16)) → PX11_meets_140 E post J23 h l0 l1 l2 l3 l4 l5 l6 l7 l8 l14 l16 l13 l14 l16))
theorem bX11_meets_111 {E : EV} {X : AX} {post : Option AV → AH → Prop} (C : Cb E X cX11_meets RX11 18 rmX11_meets) (D : Cr E X (some .boolean) rmX11_meets "meets" post) {J23 : AH → Option Nat → Int32 → Int32 → Int32 → Int32 → Int32 → Int32 → Int32 → Int32 → Int64 → Int64 → Int32 → Prop} (g23 : ∀ (h : AH) (l0 : Option Nat) (l1 : Int32) (l2 : Int32) (l3 : Int32) (l4 : Int32) (l5 : Int32) (l6 : Int32) (l7 : Int32) (l8 : Int32) (l9 : Int64) (l11 : Int64) (l13 : Int32), J23 h l0 l1 l2 l3 l4 l5 l6 l7 l8 l9 l11 l13 → Go E X 18 0 0 23 [(0, aP l0), (1, aI l1), (2, aI l2), (3, aI l3), (4, aI l4), (5, aI l5), (6, aI l6), (7, aI l7), (8, aI l8), (9, aJ l9), (11, aJ l11), (13, aI l13)] [] h) {h : AH} {l0 : Option Nat} {l1 : Int32} {l2 : Int32} {l3 : Int32} {l4 : Int32} {l5 : Int32} {l6 : Int32} {l7 : Int32} {l8 : Int32} {l9 : Int64} {l11 : Int64} {l13 : Int32} {l14 : Int64} {l16 : Int64} (w : PX11_meets_111 E post J23 h l0 l1 l2 l3 l4 l5 l6 l7 l8 l9 l11 l13 l14 l16) : Go E X 18 0 0 111 [(0, aP l0), (1, aI l1), (2, aI l2), (3, aI l3), (4, aI l4), (5, aI l5), (6, aI l6), (7, aI l7), (8, aI l8), (9, aJ l9), (11, aJ l11), (13, aI l13), (14, aJ l14), (16, aJ l16)] [] h := by
  unfold PX11_meets_111 at w
  refine r_lload C dX11_meets_111 13 rfl ?_
  refine r_lconst (v := 0) C dX11_meets_113 rfl ?_
  refine r_lcmp C dX11_meets_114 ?_
  refine r_if_le C dX11_meets_115 (tgt := 140) rfl (fun hc => ?_) (fun hc => ?_)
  · have w := w.1 hc
    exact (bX11_meets_140 C D g23 w)
  · have w := w.2 hc
    refine r_lload C dX11_meets_118 12 rfl ?_
    refine r_lload C dX11_meets_120 10 rfl ?_
    refine r_lmul C dX11_meets_122 ?_
    refine r_lload C dX11_meets_123 9 rfl ?_
    refine r_lload C dX11_meets_125 13 rfl ?_
    refine r_lmul C dX11_meets_127 ?_
    refine r_lcmp C dX11_meets_128 ?_
    refine r_if_ge C dX11_meets_129 (tgt := 140) rfl (fun hc => ?_) (fun hc => ?_)
    · have w := w.1 hc
      exact (bX11_meets_140 C D g23 w)
    · have w := w.2 hc
      refine r_lload C dX11_meets_132 12 rfl ?_
      refine r_lstore C dX11_meets_134 (by decide) rfl ?_
      refine r_lload C dX11_meets_136 13 rfl ?_
      refine r_lstore C dX11_meets_138 (by decide) rfl ?_
      exact r_sub [2, 3, 4, 5, 6, 7, 8, 9, 10, 1, 0, 11, 12, 13] rfl (bX11_meets_140 C D g23 w)
def PX11_meets_23 (E : EV) (post : Option AV → AH → Prop) (J23 : AH → Option Nat → Int32 → Int32 → Int32 → Int32 → Int32 → Int32 → Int32 → Int32 → Int64 → Int64 → Int32 → Prop) (h : AH) (l0 : Option Nat) (l1 : Int32) (l2 : Int32) (l3 : Int32) (l4 : Int32) (l5 : Int32) (l6 : Int32) (l7 : Int32) (l8 : Int32) (l9 : Int64) (l11 : Int64) (l13 : Int32) : Prop :=
  CV (sX11_normals E) l0 11 [aI l1, aI l2, aI l3, aI l4] h (kI fun x1 h2 => (x1 ≤ l13 → ((lg_cmp l9 (0 : Int64)) ≤ 0 → post (some (aI (0 : Int32))) h2) ∧ (¬ (lg_cmp l9 (0 : Int64)) ≤ 0 → rdJ h2 l0 11 9 fun x3 => rdJ h2 l0 11 10 fun x4 => (0 ≤ (lg_cmp (x3 * l11) (l9 * x4)) → post (some (aI (0 : Int32))) h2) ∧ (¬ 0 ≤ (lg_cmp (x3 * l11) (l9 * x4)) → post (some (aI (1 : Int32))) h2))) ∧ (¬ x1 ≤ l13 → CV (sX11_normal E) l0 11 [aI l1, aI l2, aI l3, aI l4, aI l13] h2 (kV fun h4 => CV (sX11_reach E) l0 11 [aI l1, aI l2, aI l3, aI l4, aI (0 : Int32)] h4 (kI fun x5 h6 => rdI h6 l0 11 5 fun x7 => rdI h6 l0 11 6 fun x8 => ∀ v9, v9 = ((x5 - (x7 * l5)) - (x8 * l6)).toInt64 → rdI h6 l0 11 5 fun x10 => rdI h6 l0 11 6 fun x11 => ∀ v12, v12 = ((x10 * l7) + (x11 * l8)).toInt64 → (¬ (lg_cmp v12 (0 : Int64)) = 0 → PX11_meets_111 E post J23 h6 l0 l1 l2 l3 l4 l5 l6 l7 l8 l9 l11 l13 v9 v12) ∧ ((lg_cmp v12 (0 : Int64)) = 0 → (0 < (lg_cmp v9 (0 : Int64)) → PX11_meets_111 E post J23 h6 l0 l1 l2 l3 l4 l5 l6 l7 l8 l9 l11 l13 v9 v12) ∧ (¬ 0 < (lg_cmp v9 (0 : Int64)) → post (some (aI (0 : Int32))) h6))))))
theorem bX11_meets_23 {E : EV} {X : AX} {post : Option AV → AH → Prop} (C : Cb E X cX11_meets RX11 18 rmX11_meets) (D : Cr E X (some .boolean) rmX11_meets "meets" post) {J23 : AH → Option Nat → Int32 → Int32 → Int32 → Int32 → Int32 → Int32 → Int32 → Int32 → Int64 → Int64 → Int32 → Prop} (g23 : ∀ (h : AH) (l0 : Option Nat) (l1 : Int32) (l2 : Int32) (l3 : Int32) (l4 : Int32) (l5 : Int32) (l6 : Int32) (l7 : Int32) (l8 : Int32) (l9 : Int64) (l11 : Int64) (l13 : Int32), J23 h l0 l1 l2 l3 l4 l5 l6 l7 l8 l9 l11 l13 → Go E X 18 0 0 23 [(0, aP l0), (1, aI l1), (2, aI l2), (3, aI l3), (4, aI l4), (5, aI l5), (6, aI l6), (7, aI l7), (8, aI l8), (9, aJ l9), (11, aJ l11), (13, aI l13)] [] h) {h : AH} {l0 : Option Nat} {l1 : Int32} {l2 : Int32} {l3 : Int32} {l4 : Int32} {l5 : Int32} {l6 : Int32} {l7 : Int32} {l8 : Int32} {l9 : Int64} {l11 : Int64} {l13 : Int32} (w : PX11_meets_23 E post J23 h l0 l1 l2 l3 l4 l5 l6 l7 l8 l9 l11 l13) : Go E X 18 0 0 23 [(0, aP l0), (1, aI l1), (2, aI l2), (3, aI l3), (4, aI l4), (5, aI l5), (6, aI l6), (7, aI l7), (8, aI l8), (9, aJ l9), (11, aJ l11), (13, aI l13)] [] h := by
  unfold PX11_meets_23 at w
  refine r_iload C dX11_meets_23 11 rfl ?_
  refine r_aload_n C dX11_meets_25 rfl 0 rfl ?_
  refine r_iload_n C dX11_meets_26 rfl 1 rfl ?_
  refine r_iload_n C dX11_meets_27 rfl 2 rfl ?_
  refine r_iload_n C dX11_meets_28 rfl 3 rfl ?_
  refine r_iload C dX11_meets_29 4 rfl ?_
  refine r_cvI (rm' := rmX11_normals) C mX11_normals vX11_normals k1229 [aI l1, aI l2, aI l3, aI l4] [aI l13] rfl rfl (Nat.le_of_ble_eq_true rfl) (by decide) ⟨Nat.zero_le _, Nat.zero_le _⟩ 0 0 rfl rfl dX11_meets_31 w (fun x1 h2 w => ?_)
  refine r_icmp_ge C dX11_meets_34 (tgt := 187) rfl (fun hc => ?_) (fun hc => ?_)
  · have w := w.1 hc
    refine r_lload C dX11_meets_187 9 rfl ?_
    refine r_lconst (v := 0) C dX11_meets_189 rfl ?_
    refine r_lcmp C dX11_meets_190 ?_
    refine r_if_le C dX11_meets_191 (tgt := 216) rfl (fun hc => ?_) (fun hc => ?_)
    · have w := w.1 hc
      refine r_iconst (v := 0) C dX11_meets_216 rfl ?_
      exact r_zret C D rfl (Or.inl rfl) (Nat.zero_le _) (Nat.zero_le _) dX11_meets_217 w
    · have w := w.2 hc
      refine r_aload_n C dX11_meets_194 rfl 0 rfl ?_
      refine r_getJ C fcX11 (f := 9) (by decide) rfl k952 dX11_meets_195 (w.mono fun x3 w => ?_)
      refine r_lload C dX11_meets_198 10 rfl ?_
      refine r_lmul C dX11_meets_200 ?_
      refine r_lload C dX11_meets_201 9 rfl ?_
      refine r_aload_n C dX11_meets_203 rfl 0 rfl ?_
      refine r_getJ C fcX11 (f := 10) (by decide) rfl k953 dX11_meets_204 (w.mono fun x4 w => ?_)
      refine r_lmul C dX11_meets_207 ?_
      refine r_lcmp C dX11_meets_208 ?_
      refine r_if_ge C dX11_meets_209 (tgt := 216) rfl (fun hc => ?_) (fun hc => ?_)
      · have w := w.1 hc
        refine r_iconst (v := 0) C dX11_meets_216 rfl ?_
        exact r_zret C D rfl (Or.inl rfl) (Nat.zero_le _) (Nat.zero_le _) dX11_meets_217 w
      · have w := w.2 hc
        refine r_iconst (v := 1) C dX11_meets_212 rfl ?_
        refine r_goto C dX11_meets_213 (tgt := 217) rfl ?_
        exact r_zret C D rfl (Or.inr rfl) (Nat.zero_le _) (Nat.zero_le _) dX11_meets_217 w
  · have w := w.2 hc
    refine r_aload_n C dX11_meets_37 rfl 0 rfl ?_
    refine r_iload_n C dX11_meets_38 rfl 1 rfl ?_
    refine r_iload_n C dX11_meets_39 rfl 2 rfl ?_
    refine r_iload_n C dX11_meets_40 rfl 3 rfl ?_
    refine r_iload C dX11_meets_41 4 rfl ?_
    refine r_iload C dX11_meets_43 11 rfl ?_
    refine r_cvV (rm' := rmX11_normal) C mX11_normal vX11_normal k1233 [aI l1, aI l2, aI l3, aI l4, aI l13] [] rfl rfl (Nat.le_of_ble_eq_true rfl) (by decide) ⟨Nat.zero_le _, Nat.zero_le _⟩ 0 0 rfl rfl dX11_meets_45 w (fun h4 w => ?_)
    refine r_aload_n C dX11_meets_48 rfl 0 rfl ?_
    refine r_iload_n C dX11_meets_49 rfl 1 rfl ?_
    refine r_iload_n C dX11_meets_50 rfl 2 rfl ?_
    refine r_iload_n C dX11_meets_51 rfl 3 rfl ?_
    refine r_iload C dX11_meets_52 4 rfl ?_
    refine r_iconst (v := 0) C dX11_meets_54 rfl ?_
    refine r_cvI (rm' := rmX11_reach) C mX11_reach vX11_reach k1237 [aI l1, aI l2, aI l3, aI l4, aI (0 : Int32)] [] rfl rfl (Nat.le_of_ble_eq_true rfl) (by decide) ⟨Nat.zero_le _, Nat.zero_le _⟩ 0 0 rfl rfl dX11_meets_55 w (fun x5 h6 w => ?_)
    refine r_aload_n C dX11_meets_58 rfl 0 rfl ?_
    refine r_getI C fcX11 (f := 5) (by decide) rfl k948 dX11_meets_59 (w.mono fun x7 w => ?_)
    refine r_iload C dX11_meets_62 5 rfl ?_
    refine r_imul C dX11_meets_64 ?_
    refine r_isub C dX11_meets_65 ?_
    refine r_aload_n C dX11_meets_66 rfl 0 rfl ?_
    refine r_getI C fcX11 (f := 6) (by decide) rfl k949 dX11_meets_67 (w.mono fun x8 w => ?_)
    refine r_iload C dX11_meets_70 6 rfl ?_
    refine r_imul C dX11_meets_72 ?_
    refine r_isub C dX11_meets_73 ?_
    refine r_i2l C dX11_meets_74 ?_
    refine r_lstore C dX11_meets_75 (by decide) rfl ?_
    have w := w _ rfl
    skip
    refine r_aload_n C dX11_meets_77 rfl 1 rfl ?_
    refine r_getI C fcX11 (f := 5) (by decide) rfl k948 dX11_meets_78 (w.mono fun x10 w => ?_)
    refine r_iload C dX11_meets_81 8 rfl ?_
    refine r_imul C dX11_meets_83 ?_
    refine r_aload_n C dX11_meets_84 rfl 1 rfl ?_
    refine r_getI C fcX11 (f := 6) (by decide) rfl k949 dX11_meets_85 (w.mono fun x11 w => ?_)
    refine r_iload C dX11_meets_88 9 rfl ?_
    refine r_imul C dX11_meets_90 ?_
    refine r_iadd C dX11_meets_91 ?_
    refine r_i2l C dX11_meets_92 ?_
    refine r_lstore C dX11_meets_93 (by decide) rfl ?_
    have w := w _ rfl
    skip
    refine r_lload C dX11_meets_95 0 rfl ?_
    refine r_lconst (v := 0) C dX11_meets_97 rfl ?_
    refine r_lcmp C dX11_meets_98 ?_
    refine r_if_ne C dX11_meets_99 (tgt := 111) rfl (fun hc => ?_) (fun hc => ?_)
    · have w := w.1 hc
      exact r_sub [2, 3, 4, 5, 6, 7, 8, 9, 10, 11, 12, 13, 1, 0] rfl (bX11_meets_111 C D g23 w)
    · have w := w.2 hc
      refine r_lload C dX11_meets_102 1 rfl ?_
      refine r_lconst (v := 0) C dX11_meets_104 rfl ?_
      refine r_lcmp C dX11_meets_105 ?_
      refine r_if_gt C dX11_meets_106 (tgt := 111) rfl (fun hc => ?_) (fun hc => ?_)
      · have w := w.1 hc
        exact r_sub [2, 3, 4, 5, 6, 7, 8, 9, 10, 11, 12, 13, 1, 0] rfl (bX11_meets_111 C D g23 w)
      · have w := w.2 hc
        refine r_iconst (v := 0) C dX11_meets_109 rfl ?_
        exact r_zret C D rfl (Or.inl rfl) (Nat.zero_le _) (Nat.zero_le _) dX11_meets_110 w
theorem lpX11_meets_23 {E : EV} {X : AX} {post : Option AV → AH → Prop} (C : Cb E X cX11_meets RX11 18 rmX11_meets) (D : Cr E X (some .boolean) rmX11_meets "meets" post) (I : Nat → AH → Option Nat → Int32 → Int32 → Int32 → Int32 → Int32 → Int32 → Int32 → Int32 → Int64 → Int64 → Int32 → Prop) (step : ∀ (z : Nat) (h : AH) (l0 : Option Nat) (l1 : Int32) (l2 : Int32) (l3 : Int32) (l4 : Int32) (l5 : Int32) (l6 : Int32) (l7 : Int32) (l8 : Int32) (l9 : Int64) (l11 : Int64) (l13 : Int32), I z h l0 l1 l2 l3 l4 l5 l6 l7 l8 l9 l11 l13 → PX11_meets_23 E post (fun h l0 l1 l2 l3 l4 l5 l6 l7 l8 l9 l11 l13 => ∃ z', z' < z ∧ I z' h l0 l1 l2 l3 l4 l5 l6 l7 l8 l9 l11 l13) h l0 l1 l2 l3 l4 l5 l6 l7 l8 l9 l11 l13) : ∀ (z : Nat) (h : AH) (l0 : Option Nat) (l1 : Int32) (l2 : Int32) (l3 : Int32) (l4 : Int32) (l5 : Int32) (l6 : Int32) (l7 : Int32) (l8 : Int32) (l9 : Int64) (l11 : Int64) (l13 : Int32), I z h l0 l1 l2 l3 l4 l5 l6 l7 l8 l9 l11 l13 → Go E X 18 0 0 23 [(0, aP l0), (1, aI l1), (2, aI l2), (3, aI l3), (4, aI l4), (5, aI l5), (6, aI l6), (7, aI l7), (8, aI l8), (9, aJ l9), (11, aJ l11), (13, aI l13)] [] h := by
  intro z
  induction z using Nat.strongRecOn with
  | _ z ih =>
    intro h l0 l1 l2 l3 l4 l5 l6 l7 l8 l9 l11 l13 hI
    exact bX11_meets_23 C D (fun h l0 l1 l2 l3 l4 l5 l6 l7 l8 l9 l11 l13 hJ => by obtain ⟨z', hz, hi⟩ := hJ; exact ih z' hz h l0 l1 l2 l3 l4 l5 l6 l7 l8 l9 l11 l13 hi) (step z h l0 l1 l2 l3 l4 l5 l6 l7 l8 l9 l11 l13 hI)
def PX11_meets_0 (E : EV) (post : Option AV → AH → Prop) (J23 : AH → Option Nat → Int32 → Int32 → Int32 → Int32 → Int32 → Int32 → Int32 → Int32 → Int64 → Int64 → Int32 → Prop) (h : AH) (l0 : Option Nat) (l1 : Int32) (l2 : Int32) (l3 : Int32) (l4 : Int32) (l5 : Int32) (l6 : Int32) (l7 : Int32) (l8 : Int32) : Prop :=
  wr h l0 11 9 (aJ (-100000 : Int64)) fun h3 => wr h3 l0 11 10 (aJ (1 : Int64)) fun h4 => J23 h4 l0 l1 l2 l3 l4 l5 l6 l7 l8 (100000 : Int64) (1 : Int64) (0 : Int32)
theorem bX11_meets_0 {E : EV} {X : AX} {post : Option AV → AH → Prop} (C : Cb E X cX11_meets RX11 18 rmX11_meets) (D : Cr E X (some .boolean) rmX11_meets "meets" post) {J23 : AH → Option Nat → Int32 → Int32 → Int32 → Int32 → Int32 → Int32 → Int32 → Int32 → Int64 → Int64 → Int32 → Prop} (g23 : ∀ (h : AH) (l0 : Option Nat) (l1 : Int32) (l2 : Int32) (l3 : Int32) (l4 : Int32) (l5 : Int32) (l6 : Int32) (l7 : Int32) (l8 : Int32) (l9 : Int64) (l11 : Int64) (l13 : Int32), J23 h l0 l1 l2 l3 l4 l5 l6 l7 l8 l9 l11 l13 → Go E X 18 0 0 23 [(0, aP l0), (1, aI l1), (2, aI l2), (3, aI l3), (4, aI l4), (5, aI l5), (6, aI l6), (7, aI l7), (8, aI l8), (9, aJ l9), (11, aJ l11), (13, aI l13)] [] h) {h : AH} {l0 : Option Nat} {l1 : Int32} {l2 : Int32} {l3 : Int32} {l4 : Int32} {l5 : Int32} {l6 : Int32} {l7 : Int32} {l8 : Int32} (w : PX11_meets_0 E post J23 h l0 l1 l2 l3 l4 l5 l6 l7 l8) : Go E X 18 0 0 0 [(0, aP l0), (1, aI l1), (2, aI l2), (3, aI l3), (4, aI l4), (5, aI l5), (6, aI l6), (7, aI l7), (8, aI l8)] [] h := by
  unfold PX11_meets_0 at w
  refine r_ldc2 (v := 100000) C dX11_meets_0 k1275 ?_
  refine r_lstore C dX11_meets_3 (by decide) rfl ?_
  refine r_lconst (v := 1) C dX11_meets_5 rfl ?_
  refine r_lstore C dX11_meets_6 (by decide) rfl ?_
  refine r_aload_n C dX11_meets_8 rfl 2 rfl ?_
  refine r_ldc2 (v := -100000) C dX11_meets_9 k1276 ?_
  refine r_put C fcX11 (f := 9) (by decide) rfl rfl rfl rfl k952 dX11_meets_12 (w.mono fun h3 w => ?_)
  refine r_aload_n C dX11_meets_15 rfl 2 rfl ?_
  refine r_lconst (v := 1) C dX11_meets_16 rfl ?_
  refine r_put C fcX11 (f := 10) (by decide) rfl rfl rfl rfl k953 dX11_meets_17 (w.mono fun h4 w => ?_)
  refine r_iconst (v := 0) C dX11_meets_20 rfl ?_
  refine r_istore C dX11_meets_21 (by decide) rfl ?_
  exact r_sub [3, 4, 5, 6, 7, 8, 9, 10, 11, 2, 1, 0] rfl (g23 h4 l0 l1 l2 l3 l4 l5 l6 l7 l8 (100000 : Int64) (1 : Int64) (0 : Int32) w)
theorem eX11_meets {E : EV} {post : Option AV → AH → Prop} {h : AH} {l0 : Option Nat} {l1 : Int32} {l2 : Int32} {l3 : Int32} {l4 : Int32} {l5 : Int32} {l6 : Int32} {l7 : Int32} {l8 : Int32} {J23 : AH → Option Nat → Int32 → Int32 → Int32 → Int32 → Int32 → Int32 → Int32 → Int32 → Int64 → Int64 → Int32 → Prop} (g23 : ∀ X : AX, Cb E X cX11_meets RX11 18 rmX11_meets → Cr E X (some .boolean) rmX11_meets "meets" post → ∀ (h : AH) (l0 : Option Nat) (l1 : Int32) (l2 : Int32) (l3 : Int32) (l4 : Int32) (l5 : Int32) (l6 : Int32) (l7 : Int32) (l8 : Int32) (l9 : Int64) (l11 : Int64) (l13 : Int32), J23 h l0 l1 l2 l3 l4 l5 l6 l7 l8 l9 l11 l13 → Go E X 18 0 0 23 [(0, aP l0), (1, aI l1), (2, aI l2), (3, aI l3), (4, aI l4), (5, aI l5), (6, aI l6), (7, aI l7), (8, aI l8), (9, aJ l9), (11, aJ l11), (13, aI l13)] [] h) (w : PX11_meets_0 E post J23 h l0 l1 l2 l3 l4 l5 l6 l7 l8) : sX11_meets E [aP l0, aI l1, aI l2, aI l3, aI l4, aI l5, aI l6, aI l7, aI l8] h post := Spec.of RX11 rfl rfl (Nat.le_of_ble_eq_true rfl) fun X C D => bX11_meets_0 C D (g23 X C D) w
theorem dX11_stops_0 : decode cX11_stops 0 = .ok (.aload_n 0, 1) := by decide +kernel
theorem dX11_stops_1 : decode cX11_stops 1 = .ok (.lconst 0, 1) := by decide +kernel
theorem dX11_stops_2 : decode cX11_stops 2 = .ok (.putfield 136, 3) := by decide +kernel
theorem dX11_stops_5 : decode cX11_stops 5 = .ok (.iconst 0, 1) := by decide +kernel
theorem dX11_stops_6 : decode cX11_stops 6 = .ok (.istore 6, 2) := by decide +kernel
theorem dX11_stops_8 : decode cX11_stops 8 = .ok (.iload 6, 2) := by decide +kernel
theorem dX11_stops_10 : decode cX11_stops 10 = .ok (.aload_n 0, 1) := by decide +kernel
theorem dX11_stops_11 : decode cX11_stops 11 = .ok (.iload_n 1, 1) := by decide +kernel
theorem dX11_stops_12 : decode cX11_stops 12 = .ok (.invokevirtual 66, 3) := by decide +kernel
theorem dX11_stops_15 : decode cX11_stops 15 = .ok (.if_icmp .ge 105, 3) := by decide +kernel
theorem dX11_stops_18 : decode cX11_stops 18 = .ok (.iconst 0, 1) := by decide +kernel
theorem dX11_stops_19 : decode cX11_stops 19 = .ok (.istore 7, 2) := by decide +kernel
theorem dX11_stops_21 : decode cX11_stops 21 = .ok (.iload 7, 2) := by decide +kernel
theorem dX11_stops_23 : decode cX11_stops 23 = .ok (.aload_n 0, 1) := by decide +kernel
theorem dX11_stops_24 : decode cX11_stops 24 = .ok (.iload_n 2, 1) := by decide +kernel
theorem dX11_stops_25 : decode cX11_stops 25 = .ok (.invokevirtual 66, 3) := by decide +kernel
theorem dX11_stops_28 : decode cX11_stops 28 = .ok (.if_icmp .ge 86, 3) := by decide +kernel
theorem dX11_stops_31 : decode cX11_stops 31 = .ok (.aload_n 0, 1) := by decide +kernel
theorem dX11_stops_32 : decode cX11_stops 32 = .ok (.iload_n 1, 1) := by decide +kernel
theorem dX11_stops_33 : decode cX11_stops 33 = .ok (.iload 6, 2) := by decide +kernel
theorem dX11_stops_35 : decode cX11_stops 35 = .ok (.iload_n 2, 1) := by decide +kernel
theorem dX11_stops_36 : decode cX11_stops 36 = .ok (.iload 7, 2) := by decide +kernel
theorem dX11_stops_38 : decode cX11_stops 38 = .ok (.iload_n 3, 1) := by decide +kernel
theorem dX11_stops_39 : decode cX11_stops 39 = .ok (.iload 4, 2) := by decide +kernel
theorem dX11_stops_41 : decode cX11_stops 41 = .ok (.iload 5, 2) := by decide +kernel
theorem dX11_stops_43 : decode cX11_stops 43 = .ok (.invokestatic 73, 3) := by decide +kernel
theorem dX11_stops_46 : decode cX11_stops 46 = .ok (.iload 5, 2) := by decide +kernel
theorem dX11_stops_48 : decode cX11_stops 48 = .ok (.invokestatic 79, 3) := by decide +kernel
theorem dX11_stops_51 : decode cX11_stops 51 = .ok (.invokevirtual 139, 3) := by decide +kernel
theorem dX11_stops_54 : decode cX11_stops 54 = .ok (.istore 8, 2) := by decide +kernel
theorem dX11_stops_56 : decode cX11_stops 56 = .ok (.iload 8, 2) := by decide +kernel
theorem dX11_stops_58 : decode cX11_stops 58 = .ok (.ifCond .eq 50, 3) := by decide +kernel
theorem dX11_stops_61 : decode cX11_stops 61 = .ok (.aload_n 0, 1) := by decide +kernel
theorem dX11_stops_62 : decode cX11_stops 62 = .ok (.getfield 136, 3) := by decide +kernel
theorem dX11_stops_65 : decode cX11_stops 65 = .ok (.lconst 0, 1) := by decide +kernel
theorem dX11_stops_66 : decode cX11_stops 66 = .ok (.lcmp, 1) := by decide +kernel
theorem dX11_stops_67 : decode cX11_stops 67 = .ok (.ifCond .eq 25, 3) := by decide +kernel
theorem dX11_stops_70 : decode cX11_stops 70 = .ok (.aload_n 0, 1) := by decide +kernel
theorem dX11_stops_71 : decode cX11_stops 71 = .ok (.getfield 130, 3) := by decide +kernel
theorem dX11_stops_74 : decode cX11_stops 74 = .ok (.aload_n 0, 1) := by decide +kernel
theorem dX11_stops_75 : decode cX11_stops 75 = .ok (.getfield 136, 3) := by decide +kernel
theorem dX11_stops_78 : decode cX11_stops 78 = .ok (.lmul, 1) := by decide +kernel
theorem dX11_stops_79 : decode cX11_stops 79 = .ok (.aload_n 0, 1) := by decide +kernel
theorem dX11_stops_80 : decode cX11_stops 80 = .ok (.getfield 142, 3) := by decide +kernel
theorem dX11_stops_83 : decode cX11_stops 83 = .ok (.aload_n 0, 1) := by decide +kernel
theorem dX11_stops_84 : decode cX11_stops 84 = .ok (.getfield 133, 3) := by decide +kernel
theorem dX11_stops_87 : decode cX11_stops 87 = .ok (.lmul, 1) := by decide +kernel
theorem dX11_stops_88 : decode cX11_stops 88 = .ok (.lcmp, 1) := by decide +kernel
theorem dX11_stops_89 : decode cX11_stops 89 = .ok (.ifCond .ge 19, 3) := by decide +kernel
theorem dX11_stops_92 : decode cX11_stops 92 = .ok (.aload_n 0, 1) := by decide +kernel
theorem dX11_stops_93 : decode cX11_stops 93 = .ok (.aload_n 0, 1) := by decide +kernel
theorem dX11_stops_94 : decode cX11_stops 94 = .ok (.getfield 130, 3) := by decide +kernel
theorem dX11_stops_97 : decode cX11_stops 97 = .ok (.putfield 142, 3) := by decide +kernel
theorem dX11_stops_100 : decode cX11_stops 100 = .ok (.aload_n 0, 1) := by decide +kernel
theorem dX11_stops_101 : decode cX11_stops 101 = .ok (.aload_n 0, 1) := by decide +kernel
theorem dX11_stops_102 : decode cX11_stops 102 = .ok (.getfield 133, 3) := by decide +kernel
theorem dX11_stops_105 : decode cX11_stops 105 = .ok (.putfield 136, 3) := by decide +kernel
theorem dX11_stops_108 : decode cX11_stops 108 = .ok (.iinc 7 1, 3) := by decide +kernel
theorem dX11_stops_111 : decode cX11_stops 111 = .ok (.goto (-90), 3) := by decide +kernel
theorem dX11_stops_114 : decode cX11_stops 114 = .ok (.iinc 6 1, 3) := by decide +kernel
theorem dX11_stops_117 : decode cX11_stops 117 = .ok (.goto (-109), 3) := by decide +kernel
theorem dX11_stops_120 : decode cX11_stops 120 = .ok (.aload_n 0, 1) := by decide +kernel
theorem dX11_stops_121 : decode cX11_stops 121 = .ok (.getfield 136, 3) := by decide +kernel
theorem dX11_stops_124 : decode cX11_stops 124 = .ok (.lconst 0, 1) := by decide +kernel
theorem dX11_stops_125 : decode cX11_stops 125 = .ok (.lcmp, 1) := by decide +kernel
theorem dX11_stops_126 : decode cX11_stops 126 = .ok (.ifCond .le 7, 3) := by decide +kernel
theorem dX11_stops_129 : decode cX11_stops 129 = .ok (.iconst 1, 1) := by decide +kernel
theorem dX11_stops_130 : decode cX11_stops 130 = .ok (.goto 4, 3) := by decide +kernel
theorem dX11_stops_133 : decode cX11_stops 133 = .ok (.iconst 0, 1) := by decide +kernel
theorem dX11_stops_134 : decode cX11_stops 134 = .ok (.ireturn, 1) := by decide +kernel
abbrev rmX11_stops : Room := { frames := 4, cells := 0, slots := 0, locals := 160 }
abbrev sX11_stops (E : EV) : List AV → AH → (Option AV → AH → Prop) → Prop := Spec E yX11_stops cX11_stops 9 (some .boolean) rmX11_stops
theorem mX11_stops : Mt yX11_stops cX11_stops 9 (some .boolean) 5 := ⟨k1270, k12, by decide +kernel⟩
theorem vX11_stops : MtV yX11_stops 11 := ⟨k1269, kp64, by decide, (RX11, TX11, 26), rfl, rfl⟩
def PX11_stops_92 (E : EV) (post : Option AV → AH → Prop) (J21 : AH → Option Nat → Int32 → Int32 → Int32 → Int32 → Int32 → Int32 → Int32 → Prop) (h : AH) (l0 : Option Nat) (l1 : Int32) (l2 : Int32) (l3 : Int32) (l4 : Int32) (l5 : Int32) (l6 : Int32) (l7 : Int32) : Prop :=
  rdJ h l0 11 9 fun x1 => wr h l0 11 11 (aJ x1) fun h2 => rdJ h2 l0 11 10 fun x3 => wr h2 l0 11 12 (aJ x3) fun h4 => J21 h4 l0 l1 l2 l3 l4 l5 l6 (l7 + (1 : Int32))
theorem bX11_stops_92 {E : EV} {X : AX} {post : Option AV → AH → Prop} (C : Cb E X cX11_stops RX11 9 rmX11_stops) (D : Cr E X (some .boolean) rmX11_stops "stops" post) {J21 : AH → Option Nat → Int32 → Int32 → Int32 → Int32 → Int32 → Int32 → Int32 → Prop} (g21 : ∀ (h : AH) (l0 : Option Nat) (l1 : Int32) (l2 : Int32) (l3 : Int32) (l4 : Int32) (l5 : Int32) (l6 : Int32) (l7 : Int32), J21 h l0 l1 l2 l3 l4 l5 l6 l7 → Go E X 9 0 0 21 [(0, aP l0), (1, aI l1), (2, aI l2), (3, aI l3), (4, aI l4), (5, aI l5), (6, aI l6), (7, aI l7)] [] h) {h : AH} {l0 : Option Nat} {l1 : Int32} {l2 : Int32} {l3 : Int32} {l4 : Int32} {l5 : Int32} {l6 : Int32} {l7 : Int32} (w : PX11_stops_92 E post J21 h l0 l1 l2 l3 l4 l5 l6 l7) : Go E X 9 0 0 92 [(0, aP l0), (1, aI l1), (2, aI l2), (3, aI l3), (4, aI l4), (5, aI l5), (6, aI l6), (7, aI l7)] [] h := by
  unfold PX11_stops_92 at w
  refine r_aload_n C dX11_stops_92 rfl 0 rfl ?_
  refine r_aload_n C dX11_stops_93 rfl 0 rfl ?_
  refine r_getJ C fcX11 (f := 9) (by decide) rfl k952 dX11_stops_94 (w.mono fun x1 w => ?_)
  refine r_put C fcX11 (f := 11) (by decide) rfl rfl rfl rfl k954 dX11_stops_97 (w.mono fun h2 w => ?_)
  refine r_aload_n C dX11_stops_100 rfl 0 rfl ?_
  refine r_aload_n C dX11_stops_101 rfl 0 rfl ?_
  refine r_getJ C fcX11 (f := 10) (by decide) rfl k953 dX11_stops_102 (w.mono fun x3 w => ?_)
  refine r_put C fcX11 (f := 12) (by decide) rfl rfl rfl rfl k955 dX11_stops_105 (w.mono fun h4 w => ?_)
  refine r_iinc C dX11_stops_108 7 rfl (v := 1) rfl (by decide) rfl ?_
  refine r_goto C dX11_stops_111 (tgt := 21) rfl ?_
  exact r_sub [1, 2, 3, 4, 5, 6, 7, 0] rfl (g21 h4 l0 l1 l2 l3 l4 l5 l6 (l7 + (1 : Int32)) w)
def PX11_stops_21 (E : EV) (post : Option AV → AH → Prop) (J8 : AH → Option Nat → Int32 → Int32 → Int32 → Int32 → Int32 → Int32 → Prop) (J21 : AH → Option Nat → Int32 → Int32 → Int32 → Int32 → Int32 → Int32 → Int32 → Prop) (h : AH) (l0 : Option Nat) (l1 : Int32) (l2 : Int32) (l3 : Int32) (l4 : Int32) (l5 : Int32) (l6 : Int32) (l7 : Int32) : Prop :=
  CV (sX11_pieces E) l0 11 [aI l2] h (kI fun x1 h2 => (x1 ≤ l7 → J8 h2 l0 l1 l2 l3 l4 l5 (l6 + (1 : Int32))) ∧ (¬ x1 ≤ l7 → CS (sX11_dirX E) [aI l5] h2 (kI fun x3 h4 => CS (sX11_dirY E) [aI l5] h4 (kI fun x5 h6 => CV (sX11_meets E) l0 11 [aI l1, aI l6, aI l2, aI l7, aI l3, aI l4, aI x3, aI x5] h6 (kI fun x7 h8 => (x7 = 0 → J21 h8 l0 l1 l2 l3 l4 l5 l6 (l7 + (1 : Int32))) ∧ (¬ x7 = 0 → rdJ h8 l0 11 12 fun x10 => ((lg_cmp x10 (0 : Int64)) = 0 → PX11_stops_92 E post J21 h8 l0 l1 l2 l3 l4 l5 l6 l7) ∧ (¬ (lg_cmp x10 (0 : Int64)) = 0 → rdJ h8 l0 11 9 fun x11 => rdJ h8 l0 11 12 fun x12 => rdJ h8 l0 11 11 fun x13 => rdJ h8 l0 11 10 fun x14 => (0 ≤ (lg_cmp (x11 * x12) (x13 * x14)) → J21 h8 l0 l1 l2 l3 l4 l5 l6 (l7 + (1 : Int32))) ∧ (¬ 0 ≤ (lg_cmp (x11 * x12) (x13 * x14)) → PX11_stops_92 E post J21 h8 l0 l1 l2 l3 l4 l5 l6 l7))))))))
theorem bX11_stops_21 {E : EV} {X : AX} {post : Option AV → AH → Prop} (C : Cb E X cX11_stops RX11 9 rmX11_stops) (D : Cr E X (some .boolean) rmX11_stops "stops" post) {J8 : AH → Option Nat → Int32 → Int32 → Int32 → Int32 → Int32 → Int32 → Prop} (g8 : ∀ (h : AH) (l0 : Option Nat) (l1 : Int32) (l2 : Int32) (l3 : Int32) (l4 : Int32) (l5 : Int32) (l6 : Int32), J8 h l0 l1 l2 l3 l4 l5 l6 → Go E X 9 0 0 8 [(0, aP l0), (1, aI l1), (2, aI l2), (3, aI l3), (4, aI l4), (5, aI l5), (6, aI l6)] [] h) {J21 : AH → Option Nat → Int32 → Int32 → Int32 → Int32 → Int32 → Int32 → Int32 → Prop} (g21 : ∀ (h : AH) (l0 : Option Nat) (l1 : Int32) (l2 : Int32) (l3 : Int32) (l4 : Int32) (l5 : Int32) (l6 : Int32) (l7 : Int32), J21 h l0 l1 l2 l3 l4 l5 l6 l7 → Go E X 9 0 0 21 [(0, aP l0), (1, aI l1), (2, aI l2), (3, aI l3), (4, aI l4), (5, aI l5), (6, aI l6), (7, aI l7)] [] h) {h : AH} {l0 : Option Nat} {l1 : Int32} {l2 : Int32} {l3 : Int32} {l4 : Int32} {l5 : Int32} {l6 : Int32} {l7 : Int32} (w : PX11_stops_21 E post J8 J21 h l0 l1 l2 l3 l4 l5 l6 l7) : Go E X 9 0 0 21 [(0, aP l0), (1, aI l1), (2, aI l2), (3, aI l3), (4, aI l4), (5, aI l5), (6, aI l6), (7, aI l7)] [] h := by
  unfold PX11_stops_21 at w
  refine r_iload C dX11_stops_21 7 rfl ?_
  refine r_aload_n C dX11_stops_23 rfl 0 rfl ?_
  refine r_iload_n C dX11_stops_24 rfl 2 rfl ?_
  refine r_cvI (rm' := rmX11_pieces) C mX11_pieces vX11_pieces k1115 [aI l2] [aI l7] rfl rfl (Nat.le_of_ble_eq_true rfl) (by decide) ⟨Nat.zero_le _, Nat.zero_le _⟩ 0 0 rfl rfl dX11_stops_25 w (fun x1 h2 w => ?_)
  refine r_icmp_ge C dX11_stops_28 (tgt := 114) rfl (fun hc => ?_) (fun hc => ?_)
  · have w := w.1 hc
    refine r_iinc C dX11_stops_114 6 rfl (v := 1) rfl (by decide) rfl ?_
    refine r_goto C dX11_stops_117 (tgt := 8) rfl ?_
    exact r_sub [1, 2, 3, 4, 5, 6, 0] rfl (g8 h2 l0 l1 l2 l3 l4 l5 (l6 + (1 : Int32)) w)
  · have w := w.2 hc
    refine r_aload_n C dX11_stops_31 rfl 0 rfl ?_
    refine r_iload_n C dX11_stops_32 rfl 1 rfl ?_
    refine r_iload C dX11_stops_33 6 rfl ?_
    refine r_iload_n C dX11_stops_35 rfl 2 rfl ?_
    refine r_iload C dX11_stops_36 7 rfl ?_
    refine r_iload_n C dX11_stops_38 rfl 3 rfl ?_
    refine r_iload C dX11_stops_39 4 rfl ?_
    refine r_iload C dX11_stops_41 5 rfl ?_
    refine r_csI (rm' := rmX11_dirX) C mX11_dirX vX11_dirX k1175 [aI l5] [aI l4, aI l3, aI l7, aI l2, aI l6, aI l1, aP l0] rfl rfl (Nat.le_of_ble_eq_true rfl) (by decide) ⟨Nat.zero_le _, Nat.zero_le _⟩ 0 0 rfl rfl dX11_stops_43 w (fun x3 h4 w => ?_)
    refine r_iload C dX11_stops_46 5 rfl ?_
    refine r_csI (rm' := rmX11_dirY) C mX11_dirY vX11_dirY k1178 [aI l5] [aI x3, aI l4, aI l3, aI l7, aI l2, aI l6, aI l1, aP l0] rfl rfl (Nat.le_of_ble_eq_true rfl) (by decide) ⟨Nat.zero_le _, Nat.zero_le _⟩ 0 0 rfl rfl dX11_stops_48 w (fun x5 h6 w => ?_)
    refine r_cvI (rm' := rmX11_meets) C mX11_meets vX11_meets k1271 [aI l1, aI l6, aI l2, aI l7, aI l3, aI l4, aI x3, aI x5] [] rfl rfl (Nat.le_of_ble_eq_true rfl) (by decide) ⟨Nat.zero_le _, Nat.zero_le _⟩ 0 0 rfl rfl dX11_stops_51 w (fun x7 h8 w => ?_)
    refine r_istore C dX11_stops_54 (by decide) rfl ?_
    refine r_iload C dX11_stops_56 0 rfl ?_
    refine r_if_eq C dX11_stops_58 (tgt := 108) rfl (fun hc => ?_) (fun hc => ?_)
    · have w := w.1 hc
      refine r_iinc C dX11_stops_108 8 rfl (v := 1) rfl (by decide) rfl ?_
      refine r_goto C dX11_stops_111 (tgt := 21) rfl ?_
      exact r_sub [2, 3, 4, 5, 6, 7, 8, 0] rfl (g21 h8 l0 l1 l2 l3 l4 l5 l6 (l7 + (1 : Int32)) w)
    · have w := w.2 hc
      refine r_aload_n C dX11_stops_61 rfl 1 rfl ?_
      refine r_getJ C fcX11 (f := 12) (by decide) rfl k955 dX11_stops_62 (w.mono fun x10 w => ?_)
      refine r_lconst (v := 0) C dX11_stops_65 rfl ?_
      refine r_lcmp C dX11_stops_66 ?_
      refine r_if_eq C dX11_stops_67 (tgt := 92) rfl (fun hc => ?_) (fun hc => ?_)
      · have w := w.1 hc
        exact r_sub [1, 2, 3, 4, 5, 6, 7, 8] rfl (bX11_stops_92 C D g21 w)
      · have w := w.2 hc
        refine r_aload_n C dX11_stops_70 rfl 1 rfl ?_
        refine r_getJ C fcX11 (f := 9) (by decide) rfl k952 dX11_stops_71 (w.mono fun x11 w => ?_)
        refine r_aload_n C dX11_stops_74 rfl 1 rfl ?_
        refine r_getJ C fcX11 (f := 12) (by decide) rfl k955 dX11_stops_75 (w.mono fun x12 w => ?_)
        refine r_lmul C dX11_stops_78 ?_
        refine r_aload_n C dX11_stops_79 rfl 1 rfl ?_
        refine r_getJ C fcX11 (f := 11) (by decide) rfl k954 dX11_stops_80 (w.mono fun x13 w => ?_)
        refine r_aload_n C dX11_stops_83 rfl 1 rfl ?_
        refine r_getJ C fcX11 (f := 10) (by decide) rfl k953 dX11_stops_84 (w.mono fun x14 w => ?_)
        refine r_lmul C dX11_stops_87 ?_
        refine r_lcmp C dX11_stops_88 ?_
        refine r_if_ge C dX11_stops_89 (tgt := 108) rfl (fun hc => ?_) (fun hc => ?_)
        · have w := w.1 hc
          refine r_iinc C dX11_stops_108 8 rfl (v := 1) rfl (by decide) rfl ?_
          refine r_goto C dX11_stops_111 (tgt := 21) rfl ?_
          exact r_sub [2, 3, 4, 5, 6, 7, 8, 0] rfl (g21 h8 l0 l1 l2 l3 l4 l5 l6 (l7 + (1 : Int32)) w)
        · have w := w.2 hc
          exact r_sub [1, 2, 3, 4, 5, 6, 7, 8] rfl (bX11_stops_92 C D g21 w)
theorem lpX11_stops_21 {E : EV} {X : AX} {post : Option AV → AH → Prop} (C : Cb E X cX11_stops RX11 9 rmX11_stops) (D : Cr E X (some .boolean) rmX11_stops "stops" post) {J8 : AH → Option Nat → Int32 → Int32 → Int32 → Int32 → Int32 → Int32 → Prop} (g8 : ∀ (h : AH) (l0 : Option Nat) (l1 : Int32) (l2 : Int32) (l3 : Int32) (l4 : Int32) (l5 : Int32) (l6 : Int32), J8 h l0 l1 l2 l3 l4 l5 l6 → Go E X 9 0 0 8 [(0, aP l0), (1, aI l1), (2, aI l2), (3, aI l3), (4, aI l4), (5, aI l5), (6, aI l6)] [] h) (I : Nat → AH → Option Nat → Int32 → Int32 → Int32 → Int32 → Int32 → Int32 → Int32 → Prop) (step : ∀ (z : Nat) (h : AH) (l0 : Option Nat) (l1 : Int32) (l2 : Int32) (l3 : Int32) (l4 : Int32) (l5 : Int32) (l6 : Int32) (l7 : Int32), I z h l0 l1 l2 l3 l4 l5 l6 l7 → PX11_stops_21 E post J8 (fun h l0 l1 l2 l3 l4 l5 l6 l7 => ∃ z', z' < z ∧ I z' h l0 l1 l2 l3 l4 l5 l6 l7) h l0 l1 l2 l3 l4 l5 l6 l7) : ∀ (z : Nat) (h : AH) (l0 : Option Nat) (l1 : Int32) (l2 : Int32) (l3 : Int32) (l4 : Int32) (l5 : Int32) (l6 : Int32) (l7 : Int32), I z h l0 l1 l2 l3 l4 l5 l6 l7 → Go E X 9 0 0 21 [(0, aP l0), (1, aI l1), (2, aI l2), (3, aI l3), (4, aI l4), (5, aI l5), (6, aI l6), (7, aI l7)] [] h := by
  intro z
  induction z using Nat.strongRecOn with
  | _ z ih =>
    intro h l0 l1 l2 l3 l4 l5 l6 l7 hI
    exact bX11_stops_21 C D g8 (fun h l0 l1 l2 l3 l4 l5 l6 l7 hJ => by obtain ⟨z', hz, hi⟩ := hJ; exact ih z' hz h l0 l1 l2 l3 l4 l5 l6 l7 hi) (step z h l0 l1 l2 l3 l4 l5 l6 l7 hI)
def PX11_stops_8 (E : EV) (post : Option AV → AH → Prop) (J21 : AH → Option Nat → Int32 → Int32 → Int32 → Int32 → Int32 → Int32 → Int32 → Prop) (h : AH) (l0 : Option Nat) (l1 : Int32) (l2 : Int32) (l3 : Int32) (l4 : Int32) (l5 : Int32) (l6 : Int32) : Prop :=
  CV (sX11_pieces E) l0 11 [aI l1] h (kI fun x1 h2 => (x1 ≤ l6 → rdJ h2 l0 11 12 fun x3 => ((lg_cmp x3 (0 : Int64)) ≤ 0 → post (some (aI (0 : Int32))) h2) ∧ (¬ (lg_cmp x3 (0 : Int64)) ≤ 0 → post (some (aI (1 : Int32))) h2)) ∧ (¬ x1 ≤ l6 → J21 h2 l0 l1 l2 l3 l4 l5 l6 (0 : Int32)))
theorem bX11_stops_8 {E : EV} {X : AX} {post : Option AV → AH → Prop} (C : Cb E X cX11_stops RX11 9 rmX11_stops) (D : Cr E X (some .boolean) rmX11_stops "stops" post) {J21 : AH → Option Nat → Int32 → Int32 → Int32 → Int32 → Int32 → Int32 → Int32 → Prop} (g21 : ∀ (h : AH) (l0 : Option Nat) (l1 : Int32) (l2 : Int32) (l3 : Int32) (l4 : Int32) (l5 : Int32) (l6 : Int32) (l7 : Int32), J21 h l0 l1 l2 l3 l4 l5 l6 l7 → Go E X 9 0 0 21 [(0, aP l0), (1, aI l1), (2, aI l2), (3, aI l3), (4, aI l4), (5, aI l5), (6, aI l6), (7, aI l7)] [] h) {h : AH} {l0 : Option Nat} {l1 : Int32} {l2 : Int32} {l3 : Int32} {l4 : Int32} {l5 : Int32} {l6 : Int32} (w : PX11_stops_8 E post J21 h l0 l1 l2 l3 l4 l5 l6) : Go E X 9 0 0 8 [(0, aP l0), (1, aI l1), (2, aI l2), (3, aI l3), (4, aI l4), (5, aI l5), (6, aI l6)] [] h := by
  unfold PX11_stops_8 at w
  refine r_iload C dX11_stops_8 6 rfl ?_
  refine r_aload_n C dX11_stops_10 rfl 0 rfl ?_
  refine r_iload_n C dX11_stops_11 rfl 1 rfl ?_
  refine r_cvI (rm' := rmX11_pieces) C mX11_pieces vX11_pieces k1115 [aI l1] [aI l6] rfl rfl (Nat.le_of_ble_eq_true rfl) (by decide) ⟨Nat.zero_le _, Nat.zero_le _⟩ 0 0 rfl rfl dX11_stops_12 w (fun x1 h2 w => ?_)
  refine r_icmp_ge C dX11_stops_15 (tgt := 120) rfl (fun hc => ?_) (fun hc => ?_)
  · have w := w.1 hc
    refine r_aload_n C dX11_stops_120 rfl 0 rfl ?_
    refine r_getJ C fcX11 (f := 12) (by decide) rfl k955 dX11_stops_121 (w.mono fun x3 w => ?_)
    refine r_lconst (v := 0) C dX11_stops_124 rfl ?_
    refine r_lcmp C dX11_stops_125 ?_
    refine r_if_le C dX11_stops_126 (tgt := 133) rfl (fun hc => ?_) (fun hc => ?_)
    · have w := w.1 hc
      refine r_iconst (v := 0) C dX11_stops_133 rfl ?_
      exact r_zret C D rfl (Or.inl rfl) (Nat.zero_le _) (Nat.zero_le _) dX11_stops_134 w
    · have w := w.2 hc
      refine r_iconst (v := 1) C dX11_stops_129 rfl ?_
      refine r_goto C dX11_stops_130 (tgt := 134) rfl ?_
      exact r_zret C D rfl (Or.inr rfl) (Nat.zero_le _) (Nat.zero_le _) dX11_stops_134 w
  · have w := w.2 hc
    refine r_iconst (v := 0) C dX11_stops_18 rfl ?_
    refine r_istore C dX11_stops_19 (by decide) rfl ?_
    exact r_sub [1, 2, 3, 4, 5, 6, 7, 0] rfl (g21 h2 l0 l1 l2 l3 l4 l5 l6 (0 : Int32) w)
def PX11_stops_0 (E : EV) (post : Option AV → AH → Prop) (J8 : AH → Option Nat → Int32 → Int32 → Int32 → Int32 → Int32 → Int32 → Prop) (h : AH) (l0 : Option Nat) (l1 : Int32) (l2 : Int32) (l3 : Int32) (l4 : Int32) (l5 : Int32) : Prop :=
  wr h l0 11 12 (aJ (0 : Int64)) fun h1 => J8 h1 l0 l1 l2 l3 l4 l5 (0 : Int32)
theorem bX11_stops_0 {E : EV} {X : AX} {post : Option AV → AH → Prop} (C : Cb E X cX11_stops RX11 9 rmX11_stops) (D : Cr E X (some .boolean) rmX11_stops "stops" post) {J8 : AH → Option Nat → Int32 → Int32 → Int32 → Int32 → Int32 → Int32 → Prop} (g8 : ∀ (h : AH) (l0 : Option Nat) (l1 : Int32) (l2 : Int32) (l3 : Int32) (l4 : Int32) (l5 : Int32) (l6 : Int32), J8 h l0 l1 l2 l3 l4 l5 l6 → Go E X 9 0 0 8 [(0, aP l0), (1, aI l1), (2, aI l2), (3, aI l3), (4, aI l4), (5, aI l5), (6, aI l6)] [] h) {h : AH} {l0 : Option Nat} {l1 : Int32} {l2 : Int32} {l3 : Int32} {l4 : Int32} {l5 : Int32} (w : PX11_stops_0 E post J8 h l0 l1 l2 l3 l4 l5) : Go E X 9 0 0 0 [(0, aP l0), (1, aI l1), (2, aI l2), (3, aI l3), (4, aI l4), (5, aI l5)] [] h := by
  unfold PX11_stops_0 at w
  refine r_aload_n C dX11_stops_0 rfl 0 rfl ?_
  refine r_lconst (v := 0) C dX11_stops_1 rfl ?_
  refine r_put C fcX11 (f := 12) (by decide) rfl rfl rfl rfl k955 dX11_stops_2 (w.mono fun h1 w => ?_)
  refine r_iconst (v := 0) C dX11_stops_5 rfl ?_
  refine r_istore C dX11_stops_6 (by decide) rfl ?_
  exact r_sub [1, 2, 3, 4, 5, 6, 0] rfl (g8 h1 l0 l1 l2 l3 l4 l5 (0 : Int32) w)
theorem eX11_stops {E : EV} {post : Option AV → AH → Prop} {h : AH} {l0 : Option Nat} {l1 : Int32} {l2 : Int32} {l3 : Int32} {l4 : Int32} {l5 : Int32} {J8 : AH → Option Nat → Int32 → Int32 → Int32 → Int32 → Int32 → Int32 → Prop} (g8 : ∀ X : AX, Cb E X cX11_stops RX11 9 rmX11_stops → Cr E X (some .boolean) rmX11_stops "stops" post → ∀ (h : AH) (l0 : Option Nat) (l1 : Int32) (l2 : Int32) (l3 : Int32) (l4 : Int32) (l5 : Int32) (l6 : Int32), J8 h l0 l1 l2 l3 l4 l5 l6 → Go E X 9 0 0 8 [(0, aP l0), (1, aI l1), (2, aI l2), (3, aI l3), (4, aI l4), (5, aI l5), (6, aI l6)] [] h) (w : PX11_stops_0 E post J8 h l0 l1 l2 l3 l4 l5) : sX11_stops E [aP l0, aI l1, aI l2, aI l3, aI l4, aI l5] h post := Spec.of RX11 rfl rfl (Nat.le_of_ble_eq_true rfl) fun X C D => bX11_stops_0 C D (g8 X C D) w
theorem dX11_comesOut_0 : decode cX11_comesOut 0 = .ok (.iconst 1, 1) := by decide +kernel
theorem dX11_comesOut_1 : decode cX11_comesOut 1 = .ok (.istore 4, 2) := by decide +kernel
theorem dX11_comesOut_3 : decode cX11_comesOut 3 = .ok (.iconst 0, 1) := by decide +kernel
theorem dX11_comesOut_4 : decode cX11_comesOut 4 = .ok (.istore 5, 2) := by decide +kernel
theorem dX11_comesOut_6 : decode cX11_comesOut 6 = .ok (.iload 5, 2) := by decide +kernel
theorem dX11_comesOut_8 : decode cX11_comesOut 8 = .ok (.aload_n 0, 1) := by decide +kernel
theorem dX11_comesOut_9 : decode cX11_comesOut 9 = .ok (.getfield 7, 3) := by decide +kernel
theorem dX11_comesOut_12 : decode cX11_comesOut 12 = .ok (.iconst 3, 1) := by decide +kernel
theorem dX11_comesOut_13 : decode cX11_comesOut 13 = .ok (.iaload, 1) := by decide +kernel
theorem dX11_comesOut_14 : decode cX11_comesOut 14 = .ok (.if_icmp .ge 90, 3) := by decide +kernel
theorem dX11_comesOut_17 : decode cX11_comesOut 17 = .ok (.iload 4, 2) := by decide +kernel
theorem dX11_comesOut_19 : decode cX11_comesOut 19 = .ok (.ifCond .eq 85, 3) := by decide +kernel
theorem dX11_comesOut_22 : decode cX11_comesOut 22 = .ok (.iload 5, 2) := by decide +kernel
theorem dX11_comesOut_24 : decode cX11_comesOut 24 = .ok (.iload_n 1, 1) := by decide +kernel
theorem dX11_comesOut_25 : decode cX11_comesOut 25 = .ok (.if_icmp .eq 17, 3) := by decide +kernel
theorem dX11_comesOut_28 : decode cX11_comesOut 28 = .ok (.iload_n 3, 1) := by decide +kernel
theorem dX11_comesOut_29 : decode cX11_comesOut 29 = .ok (.iload 5, 2) := by decide +kernel
theorem dX11_comesOut_31 : decode cX11_comesOut 31 = .ok (.ishr, 1) := by decide +kernel
theorem dX11_comesOut_32 : decode cX11_comesOut 32 = .ok (.iconst 1, 1) := by decide +kernel
theorem dX11_comesOut_33 : decode cX11_comesOut 33 = .ok (.iand, 1) := by decide +kernel
theorem dX11_comesOut_34 : decode cX11_comesOut 34 = .ok (.iconst 1, 1) := by decide +kernel
theorem dX11_comesOut_35 : decode cX11_comesOut 35 = .ok (.if_icmp .ne 7, 3) := by decide +kernel
theorem dX11_comesOut_38 : decode cX11_comesOut 38 = .ok (.iconst 1, 1) := by decide +kernel
theorem dX11_comesOut_39 : decode cX11_comesOut 39 = .ok (.goto 4, 3) := by decide +kernel
theorem dX11_comesOut_42 : decode cX11_comesOut 42 = .ok (.iconst 0, 1) := by decide +kernel
theorem dX11_comesOut_43 : decode cX11_comesOut 43 = .ok (.istore 6, 2) := by decide +kernel
theorem dX11_comesOut_45 : decode cX11_comesOut 45 = .ok (.iload 6, 2) := by decide +kernel
theorem dX11_comesOut_47 : decode cX11_comesOut 47 = .ok (.ifCond .eq 44, 3) := by decide +kernel
theorem dX11_comesOut_50 : decode cX11_comesOut 50 = .ok (.aload_n 0, 1) := by decide +kernel
theorem dX11_comesOut_51 : decode cX11_comesOut 51 = .ok (.iload 5, 2) := by decide +kernel
theorem dX11_comesOut_53 : decode cX11_comesOut 53 = .ok (.invokestatic 257, 3) := by decide +kernel
theorem dX11_comesOut_56 : decode cX11_comesOut 56 = .ok (.iload_n 1, 1) := by decide +kernel
theorem dX11_comesOut_57 : decode cX11_comesOut 57 = .ok (.invokestatic 257, 3) := by decide +kernel
theorem dX11_comesOut_60 : decode cX11_comesOut 60 = .ok (.aload_n 0, 1) := by decide +kernel
theorem dX11_comesOut_61 : decode cX11_comesOut 61 = .ok (.iload_n 1, 1) := by decide +kernel
theorem dX11_comesOut_62 : decode cX11_comesOut 62 = .ok (.invokevirtual 260, 3) := by decide +kernel
theorem dX11_comesOut_65 : decode cX11_comesOut 65 = .ok (.aload_n 0, 1) := by decide +kernel
theorem dX11_comesOut_66 : decode cX11_comesOut 66 = .ok (.iload 5, 2) := by decide +kernel
theorem dX11_comesOut_68 : decode cX11_comesOut 68 = .ok (.invokevirtual 260, 3) := by decide +kernel
theorem dX11_comesOut_71 : decode cX11_comesOut 71 = .ok (.isub, 1) := by decide +kernel
theorem dX11_comesOut_72 : decode cX11_comesOut 72 = .ok (.aload_n 0, 1) := by decide +kernel
theorem dX11_comesOut_73 : decode cX11_comesOut 73 = .ok (.iload_n 1, 1) := by decide +kernel
theorem dX11_comesOut_74 : decode cX11_comesOut 74 = .ok (.invokevirtual 263, 3) := by decide +kernel
theorem dX11_comesOut_77 : decode cX11_comesOut 77 = .ok (.aload_n 0, 1) := by decide +kernel
theorem dX11_comesOut_78 : decode cX11_comesOut 78 = .ok (.iload 5, 2) := by decide +kernel
theorem dX11_comesOut_80 : decode cX11_comesOut 80 = .ok (.invokevirtual 263, 3) := by decide +kernel
theorem dX11_comesOut_83 : decode cX11_comesOut 83 = .ok (.isub, 1) := by decide +kernel
theorem dX11_comesOut_84 : decode cX11_comesOut 84 = .ok (.iload_n 2, 1) := by decide +kernel
theorem dX11_comesOut_85 : decode cX11_comesOut 85 = .ok (.invokevirtual 250, 3) := by decide +kernel
theorem dX11_comesOut_88 : decode cX11_comesOut 88 = .ok (.ifCond .ne 7, 3) := by decide +kernel
theorem dX11_comesOut_91 : decode cX11_comesOut 91 = .ok (.iconst 1, 1) := by decide +kernel
theorem dX11_comesOut_92 : decode cX11_comesOut 92 = .ok (.goto 4, 3) := by decide +kernel
theorem dX11_comesOut_95 : decode cX11_comesOut 95 = .ok (.iconst 0, 1) := by decide +kernel
theorem dX11_comesOut_96 : decode cX11_comesOut 96 = .ok (.istore 4, 2) := by decide +kernel
theorem dX11_comesOut_98 : decode cX11_comesOut 98 = .ok (.iinc 5 1, 3) := by decide +kernel
theorem dX11_comesOut_101 : decode cX11_comesOut 101 = .ok (.goto (-95), 3) := by decide +kernel
theorem dX11_comesOut_104 : decode cX11_comesOut 104 = .ok (.iload 4, 2) := by decide +kernel
theorem dX11_comesOut_106 : decode cX11_comesOut 106 = .ok (.ireturn, 1) := by decide +kernel
abbrev rmX11_comesOut : Room := { frames := 5, cells := 0, slots := 0, locals := 200 }
abbrev sX11_comesOut (E : EV) : List AV → AH → (Option AV → AH → Prop) → Prop := Spec E yX11_comesOut cX11_comesOut 7 (some .boolean) rmX11_comesOut
theorem mX11_comesOut : Mt yX11_comesOut cX11_comesOut 7 (some .boolean) 3 := ⟨k1408, k12, by decide +kernel⟩
theorem vX11_comesOut : MtV yX11_comesOut 11 := ⟨k1407, kp81, by decide, (RX11, TX11, 26), rfl, rfl⟩
def PX11_comesOut_43 (E : EV) (post : Option AV → AH → Prop) (J6 : AH → Option Nat → Int32 → Int32 → Int32 → Int32 → Int32 → Prop) (h : AH) (l0 : Option Nat) (l1 : Int32) (l2 : Int32) (l3 : Int32) (l5 : Int32) (s0 : Int32) : Prop :=
  (s0 = 0 → J6 h l0 l1 l2 l3 (1 : Int32) (l5 + (1 : Int32))) ∧ (¬ s0 = 0 → CS (sX11_itemShape E) [aI l5] h (kI fun x2 h3 => CS (sX11_itemShape E) [aI l1] h3 (kI fun x4 h5 => CV (sX11_itemX E) l0 11 [aI l1] h5 (kI fun x6 h7 => CV (sX11_itemX E) l0 11 [aI l5] h7 (kI fun x8 h9 => CV (sX11_itemY E) l0 11 [aI l1] h9 (kI fun x10 h11 => CV (sX11_itemY E) l0 11 [aI l5] h11 (kI fun x12 h13 => CV (sX11_stops E) l0 11 [aI x2, aI x4, aI (x6 - x8), aI (x10 - x12), aI l2] h13 (kI fun x14 h15 => (¬ x14 = 0 → J6 h15 l0 l1 l2 l3 (0 : Int32) (l5 + (1 : Int32))) ∧ (x14 = 0 → J6 h15 l0 l1 l2 l3 (1 : Int32) (l5 + (1 : Int32)))))))))))
theorem bX11_comesOut_43 {E : EV} {X : AX} {post : Option AV → AH → Prop} (C : Cb E X cX11_comesOut RX11 7 rmX11_comesOut) (D : Cr E X (some .boolean) rmX11_comesOut "comesOut" post) {J6 : AH → Option Nat → Int32 → Int32 → Int32 → Int32 → Int32 → Prop} (g6 : ∀ (h : AH) (l0 : Option Nat) (l1 : Int32) (l2 : Int32) (l3 : Int32) (l4 : Int32) (l5 : Int32), J6 h l0 l1 l2 l3 l4 l5 → Go E X 7 0 0 6 [(0, aP l0), (1, aI l1), (2, aI l2), (3, aI l3), (4, aI l4), (5, aI l5)] [] h) {h : AH} {l0 : Option Nat} {l1 : Int32} {l2 : Int32} {l3 : Int32} {l5 : Int32} {s0 : Int32} (w : PX11_comesOut_43 E post J6 h l0 l1 l2 l3 l5 s0) : Go E X 7 0 0 43 [(0, aP l0), (1, aI l1), (2, aI l2), (3, aI l3), (5, aI l5)] [aI s0] h := by
  unfold PX11_comesOut_43 at w
  refine r_istore C dX11_comesOut_43 (by decide) rfl ?_
  refine r_iload C dX11_comesOut_45 0 rfl ?_
  refine r_if_eq C dX11_comesOut_47 (tgt := 91) rfl (fun hc => ?_) (fun hc => ?_)
  · have w := w.1 hc
    refine r_iconst (v := 1) C dX11_comesOut_91 rfl ?_
    refine r_goto C dX11_comesOut_92 (tgt := 96) rfl ?_
    refine r_istore C dX11_comesOut_96 (by decide) rfl ?_
    refine r_iinc C dX11_comesOut_98 6 rfl (v := 1) rfl (by decide) rfl ?_
    refine r_goto C dX11_comesOut_101 (tgt := 6) rfl ?_
    exact r_sub [3, 4, 5, 6, 1, 0] rfl (g6 h l0 l1 l2 l3 (1 : Int32) (l5 + (1 : Int32)) w)
  · have w := w.2 hc
    refine r_aload_n C dX11_comesOut_50 rfl 1 rfl ?_
    refine r_iload C dX11_comesOut_51 5 rfl ?_
    refine r_csI (rm' := rmX11_itemShape) C mX11_itemShape vX11_itemShape k1281 [aI l5] [aP l0] rfl rfl (Nat.le_of_ble_eq_true rfl) (by decide) ⟨Nat.zero_le _, Nat.zero_le _⟩ 0 0 rfl rfl dX11_comesOut_53 w (fun x2 h3 w => ?_)
    refine r_iload_n C dX11_comesOut_56 rfl 2 rfl ?_
    refine r_csI (rm' := rmX11_itemShape) C mX11_itemShape vX11_itemShape k1281 [aI l1] [aI x2, aP l0] rfl rfl (Nat.le_of_ble_eq_true rfl) (by decide) ⟨Nat.zero_le _, Nat.zero_le _⟩ 0 0 rfl rfl dX11_comesOut_57 w (fun x4 h5 w => ?_)
    refine r_aload_n C dX11_comesOut_60 rfl 1 rfl ?_
    refine r_iload_n C dX11_comesOut_61 rfl 2 rfl ?_
    refine r_cvI (rm' := rmX11_itemX) C mX11_itemX vX11_itemX k1284 [aI l1] [aI x4, aI x2, aP l0] rfl rfl (Nat.le_of_ble_eq_true rfl) (by decide) ⟨Nat.zero_le _, Nat.zero_le _⟩ 0 0 rfl rfl dX11_comesOut_62 w (fun x6 h7 w => ?_)
    refine r_aload_n C dX11_comesOut_65 rfl 1 rfl ?_
    refine r_iload C dX11_comesOut_66 5 rfl ?_
    refine r_cvI (rm' := rmX11_itemX) C mX11_itemX vX11_itemX k1284 [aI l5] [aI x6, aI x4, aI x2, aP l0] rfl rfl (Nat.le_of_ble_eq_true rfl) (by decide) ⟨Nat.zero_le _, Nat.zero_le _⟩ 0 0 rfl rfl dX11_comesOut_68 w (fun x8 h9 w => ?_)
    refine r_isub C dX11_comesOut_71 ?_
    refine r_aload_n C dX11_comesOut_72 rfl 1 rfl ?_
    refine r_iload_n C dX11_comesOut_73 rfl 2 rfl ?_
    refine r_cvI (rm' := rmX11_itemY) C mX11_itemY vX11_itemY k1288 [aI l1] [aI (x6 - x8), aI x4, aI x2, aP l0] rfl rfl (Nat.le_of_ble_eq_true rfl) (by decide) ⟨Nat.zero_le _, Nat.zero_le _⟩ 0 0 rfl rfl dX11_comesOut_74 w (fun x10 h11 w => ?_)
    refine r_aload_n C dX11_comesOut_77 rfl 1 rfl ?_
    refine r_iload C dX11_comesOut_78 5 rfl ?_
    refine r_cvI (rm' := rmX11_itemY) C mX11_itemY vX11_itemY k1288 [aI l5] [aI x10, aI (x6 - x8), aI x4, aI x2, aP l0] rfl rfl (Nat.le_of_ble_eq_true rfl) (by decide) ⟨Nat.zero_le _, Nat.zero_le _⟩ 0 0 rfl rfl dX11_comesOut_80 w (fun x12 h13 w => ?_)
    refine r_isub C dX11_comesOut_83 ?_
    refine r_iload_n C dX11_comesOut_84 rfl 3 rfl ?_
    refine r_cvI (rm' := rmX11_stops) C mX11_stops vX11_stops k1267 [aI x2, aI x4, aI (x6 - x8), aI (x10 - x12), aI l2] [] rfl rfl (Nat.le_of_ble_eq_true rfl) (by decide) ⟨Nat.zero_le _, Nat.zero_le _⟩ 0 0 rfl rfl dX11_comesOut_85 w (fun x14 h15 w => ?_)
    refine r_if_ne C dX11_comesOut_88 (tgt := 95) rfl (fun hc => ?_) (fun hc => ?_)
    · have w := w.1 hc
      refine r_iconst (v := 0) C dX11_comesOut_95 rfl ?_
      refine r_istore C dX11_comesOut_96 (by decide) rfl ?_
      refine r_iinc C dX11_comesOut_98 6 rfl (v := 1) rfl (by decide) rfl ?_
      refine r_goto C dX11_comesOut_101 (tgt := 6) rfl ?_
      exact r_sub [3, 4, 5, 6, 1, 0] rfl (g6 h15 l0 l1 l2 l3 (0 : Int32) (l5 + (1 : Int32)) w)
    · have w := w.2 hc
      refine r_iconst (v := 1) C dX11_comesOut_91 rfl ?_
      refine r_goto C dX11_comesOut_92 (tgt := 96) rfl ?_
      refine r_istore C dX11_comesOut_96 (by decide) rfl ?_
      refine r_iinc C dX11_comesOut_98 6 rfl (v := 1) rfl (by decide) rfl ?_
      refine r_goto C dX11_comesOut_101 (tgt := 6) rfl ?_
      exact r_sub [3, 4, 5, 6, 1, 0] rfl (g6 h15 l0 l1 l2 l3 (1 : Int32) (l5 + (1 : Int32)) w)
def PX11_comesOut_42 (E : EV) (post : Option AV → AH → Prop) (J6 : AH → Option Nat → Int32 → Int32 → Int32 → Int32 → Int32 → Prop) (h : AH) (l0 : Option Nat) (l1 : Int32) (l2 : Int32) (l3 : Int32) (l5 : Int32) : Prop :=
  PX11_comesOut_43 E post J6 h l0 l1 l2 l3 l5 (0 : Int32)
theorem bX11_comesOut_42 {E : EV} {X : AX} {post : Option AV → AH → Prop} (C : Cb E X cX11_comesOut RX11 7 rmX11_comesOut) (D : Cr E X (some .boolean) rmX11_comesOut "comesOut" post) {J6 : AH → Option Nat → Int32 → Int32 → Int32 → Int32 → Int32 → Prop} (g6 : ∀ (h : AH) (l0 : Option Nat) (l1 : Int32) (l2 : Int32) (l3 : Int32) (l4 : Int32) (l5 : Int32), J6 h l0 l1 l2 l3 l4 l5 → Go E X 7 0 0 6 [(0, aP l0), (1, aI l1), (2, aI l2), (3, aI l3), (4, aI l4), (5, aI l5)] [] h) {h : AH} {l0 : Option Nat} {l1 : Int32} {l2 : Int32} {l3 : Int32} {l5 : Int32} (w : PX11_comesOut_42 E post J6 h l0 l1 l2 l3 l5) : Go E X 7 0 0 42 [(0, aP l0), (1, aI l1), (2, aI l2), (3, aI l3), (5, aI l5)] [] h := by
  unfold PX11_comesOut_42 at w
  refine r_iconst (v := 0) C dX11_comesOut_42 rfl ?_
  exact (bX11_comesOut_43 C D g6 w)
def PX11_comesOut_6 (E : EV) (post : Option AV → AH → Prop) (J6 : AH → Option Nat → Int32 → Int32 → Int32 → Int32 → Int32 → Prop) (h : AH) (l0 : Option Nat) (l1 : Int32) (l2 : Int32) (l3 : Int32) (l4 : Int32) (l5 : Int32) : Prop :=
  rdP h l0 11 0 fun x1 => aldI h x1 0 (3 : Int32) fun x2 => (x2 ≤ l5 → (l4 = 0 ∨ l4 = 1) ∧ post (some (aI l4)) h) ∧ (¬ x2 ≤ l5 → (l4 = 0 → (l4 = 0 ∨ l4 = 1) ∧ post (some (aI l4)) h) ∧ (¬ l4 = 0 → (l5 = l1 → PX11_comesOut_42 E post J6 h l0 l1 l2 l3 l5) ∧ (¬ l5 = l1 → (¬ ((l3 >>> (l5 &&& 31)) &&& (1 : Int32)) = (1 : Int32) → PX11_comesOut_42 E post J6 h l0 l1 l2 l3 l5) ∧ (((l3 >>> (l5 &&& 31)) &&& (1 : Int32)) = (1 : Int32) → PX11_comesOut_43 E post J6 h l0 l1 l2 l3 l5 (1 : Int32)))))
theorem bX11_comesOut_6 {E : EV} {X : AX} {post : Option AV → AH → Prop} (C : Cb E X cX11_comesOut RX11 7 rmX11_comesOut) (D : Cr E X (some .boolean) rmX11_comesOut "comesOut" post) {J6 : AH → Option Nat → Int32 → Int32 → Int32 → Int32 → Int32 → Prop} (g6 : ∀ (h : AH) (l0 : Option Nat) (l1 : Int32) (l2 : Int32) (l3 : Int32) (l4 : Int32) (l5 : Int32), J6 h l0 l1 l2 l3 l4 l5 → Go E X 7 0 0 6 [(0, aP l0), (1, aI l1), (2, aI l2), (3, aI l3), (4, aI l4), (5, aI l5)] [] h) {h : AH} {l0 : Option Nat} {l1 : Int32} {l2 : Int32} {l3 : Int32} {l4 : Int32} {l5 : Int32} (w : PX11_comesOut_6 E post J6 h l0 l1 l2 l3 l4 l5) : Go E X 7 0 0 6 [(0, aP l0), (1, aI l1), (2, aI l2), (3, aI l3), (4, aI l4), (5, aI l5)] [] h := by
  unfold PX11_comesOut_6 at w
  refine r_iload C dX11_comesOut_6 5 rfl ?_
  refine r_aload_n C dX11_comesOut_8 rfl 0 rfl ?_
  refine r_getP C fcX11 (f := 0) (by decide) rfl k943 dX11_comesOut_9 (w.mono fun x1 w => ?_)
  refine r_iconst (v := 3) C dX11_comesOut_12 rfl ?_
  refine r_iald C dX11_comesOut_13 (w.mono fun x2 w => ?_)
  refine r_icmp_ge C dX11_comesOut_14 (tgt := 104) rfl (fun hc => ?_) (fun hc => ?_)
  · have w := w.1 hc
    refine r_iload C dX11_comesOut_104 4 rfl ?_
    exact r_zret C D rfl w.1 (Nat.zero_le _) (Nat.zero_le _) dX11_comesOut_106 w.2
  · have w := w.2 hc
    refine r_iload C dX11_comesOut_17 4 rfl ?_
    refine r_if_eq C dX11_comesOut_19 (tgt := 104) rfl (fun hc => ?_) (fun hc => ?_)
    · have w := w.1 hc
      refine r_iload C dX11_comesOut_104 4 rfl ?_
      exact r_zret C D rfl w.1 (Nat.zero_le _) (Nat.zero_le _) dX11_comesOut_106 w.2
    · have w := w.2 hc
      refine r_iload C dX11_comesOut_22 5 rfl ?_
      refine r_iload_n C dX11_comesOut_24 rfl 1 rfl ?_
      refine r_icmp_eq C dX11_comesOut_25 (tgt := 42) rfl (fun hc => ?_) (fun hc => ?_)
      · have w := w.1 hc
        exact r_sub [0, 1, 2, 3, 5] rfl (bX11_comesOut_42 C D g6 w)
      · have w := w.2 hc
        refine r_iload_n C dX11_comesOut_28 rfl 3 rfl ?_
        refine r_iload C dX11_comesOut_29 5 rfl ?_
        refine r_ishr C dX11_comesOut_31 ?_
        refine r_iconst (v := 1) C dX11_comesOut_32 rfl ?_
        refine r_iand C dX11_comesOut_33 ?_
        refine r_iconst (v := 1) C dX11_comesOut_34 rfl ?_
        refine r_icmp_ne C dX11_comesOut_35 (tgt := 42) rfl (fun hc => ?_) (fun hc => ?_)
        · have w := w.1 hc
          exact r_sub [0, 1, 2, 3, 5] rfl (bX11_comesOut_42 C D g6 w)
        · have w := w.2 hc
          refine r_iconst (v := 1) C dX11_comesOut_38 rfl ?_
          refine r_goto C dX11_comesOut_39 (tgt := 43) rfl ?_
          exact r_sub [0, 1, 2, 3, 5] rfl (bX11_comesOut_43 C D g6 w)
theorem lpX11_comesOut_6 {E : EV} {X : AX} {post : Option AV → AH → Prop} (C : Cb E X cX11_comesOut RX11 7 rmX11_comesOut) (D : Cr E X (some .boolean) rmX11_comesOut "comesOut" post) (I : Nat → AH → Option Nat → Int32 → Int32 → Int32 → Int32 → Int32 → Prop) (step : ∀ (z : Nat) (h : AH) (l0 : Option Nat) (l1 : Int32) (l2 : Int32) (l3 : Int32) (l4 : Int32) (l5 : Int32), I z h l0 l1 l2 l3 l4 l5 → PX11_comesOut_6 E post (fun h l0 l1 l2 l3 l4 l5 => ∃ z', z' < z ∧ I z' h l0 l1 l2 l3 l4 l5) h l0 l1 l2 l3 l4 l5) : ∀ (z : Nat) (h : AH) (l0 : Option Nat) (l1 : Int32) (l2 : Int32) (l3 : Int32) (l4 : Int32) (l5 : Int32), I z h l0 l1 l2 l3 l4 l5 → Go E X 7 0 0 6 [(0, aP l0), (1, aI l1), (2, aI l2), (3, aI l3), (4, aI l4), (5, aI l5)] [] h := by
  intro z
  induction z using Nat.strongRecOn with
  | _ z ih =>
    intro h l0 l1 l2 l3 l4 l5 hI
    exact bX11_comesOut_6 C D (fun h l0 l1 l2 l3 l4 l5 hJ => by obtain ⟨z', hz, hi⟩ := hJ; exact ih z' hz h l0 l1 l2 l3 l4 l5 hi) (step z h l0 l1 l2 l3 l4 l5 hI)
def PX11_comesOut_0 (E : EV) (post : Option AV → AH → Prop) (J6 : AH → Option Nat → Int32 → Int32 → Int32 → Int32 → Int32 → Prop) (h : AH) (l0 : Option Nat) (l1 : Int32) (l2 : Int32) (l3 : Int32) : Prop :=
  J6 h l0 l1 l2 l3 (1 : Int32) (0 : Int32)
theorem bX11_comesOut_0 {E : EV} {X : AX} {post : Option AV → AH → Prop} (C : Cb E X cX11_comesOut RX11 7 rmX11_comesOut) (D : Cr E X (some .boolean) rmX11_comesOut "comesOut" post) {J6 : AH → Option Nat → Int32 → Int32 → Int32 → Int32 → Int32 → Prop} (g6 : ∀ (h : AH) (l0 : Option Nat) (l1 : Int32) (l2 : Int32) (l3 : Int32) (l4 : Int32) (l5 : Int32), J6 h l0 l1 l2 l3 l4 l5 → Go E X 7 0 0 6 [(0, aP l0), (1, aI l1), (2, aI l2), (3, aI l3), (4, aI l4), (5, aI l5)] [] h) {h : AH} {l0 : Option Nat} {l1 : Int32} {l2 : Int32} {l3 : Int32} (w : PX11_comesOut_0 E post J6 h l0 l1 l2 l3) : Go E X 7 0 0 0 [(0, aP l0), (1, aI l1), (2, aI l2), (3, aI l3)] [] h := by
  unfold PX11_comesOut_0 at w
  refine r_iconst (v := 1) C dX11_comesOut_0 rfl ?_
  refine r_istore C dX11_comesOut_1 (by decide) rfl ?_
  refine r_iconst (v := 0) C dX11_comesOut_3 rfl ?_
  refine r_istore C dX11_comesOut_4 (by decide) rfl ?_
  exact r_sub [2, 3, 4, 5, 1, 0] rfl (g6 h l0 l1 l2 l3 (1 : Int32) (0 : Int32) w)
theorem eX11_comesOut {E : EV} {post : Option AV → AH → Prop} {h : AH} {l0 : Option Nat} {l1 : Int32} {l2 : Int32} {l3 : Int32} {J6 : AH → Option Nat → Int32 → Int32 → Int32 → Int32 → Int32 → Prop} (g6 : ∀ X : AX, Cb E X cX11_comesOut RX11 7 rmX11_comesOut → Cr E X (some .boolean) rmX11_comesOut "comesOut" post → ∀ (h : AH) (l0 : Option Nat) (l1 : Int32) (l2 : Int32) (l3 : Int32) (l4 : Int32) (l5 : Int32), J6 h l0 l1 l2 l3 l4 l5 → Go E X 7 0 0 6 [(0, aP l0), (1, aI l1), (2, aI l2), (3, aI l3), (4, aI l4), (5, aI l5)] [] h) (w : PX11_comesOut_0 E post J6 h l0 l1 l2 l3) : sX11_comesOut E [aP l0, aI l1, aI l2, aI l3] h post := Spec.of RX11 rfl rfl (Nat.le_of_ble_eq_true rfl) fun X C D => bX11_comesOut_0 C D (g6 X C D) w
theorem dX11_common_0 : decode cX11_common 0 = .ok (.lload_n 0, 1) := by decide +kernel
theorem dX11_common_1 : decode cX11_common 1 = .ok (.lstore 4, 2) := by decide +kernel
theorem dX11_common_3 : decode cX11_common 3 = .ok (.lload_n 2, 1) := by decide +kernel
theorem dX11_common_4 : decode cX11_common 4 = .ok (.lstore 6, 2) := by decide +kernel
theorem dX11_common_6 : decode cX11_common 6 = .ok (.lload 6, 2) := by decide +kernel
theorem dX11_common_8 : decode cX11_common 8 = .ok (.lconst 0, 1) := by decide +kernel
theorem dX11_common_9 : decode cX11_common 9 = .ok (.lcmp, 1) := by decide +kernel
theorem dX11_common_10 : decode cX11_common 10 = .ok (.ifCond .eq 21, 3) := by decide +kernel
theorem dX11_common_13 : decode cX11_common 13 = .ok (.lload 4, 2) := by decide +kernel
theorem dX11_common_15 : decode cX11_common 15 = .ok (.lload 6, 2) := by decide +kernel
theorem dX11_common_17 : decode cX11_common 17 = .ok (.lrem, 1) := by decide +kernel
theorem dX11_common_18 : decode cX11_common 18 = .ok (.lstore 8, 2) := by decide +kernel
theorem dX11_common_20 : decode cX11_common 20 = .ok (.lload 6, 2) := by decide +kernel
theorem dX11_common_22 : decode cX11_common 22 = .ok (.lstore 4, 2) := by decide +kernel
theorem dX11_common_24 : decode cX11_common 24 = .ok (.lload 8, 2) := by decide +kernel
theorem dX11_common_26 : decode cX11_common 26 = .ok (.lstore 6, 2) := by decide +kernel
theorem dX11_common_28 : decode cX11_common 28 = .ok (.goto (-22), 3) := by decide +kernel
theorem dX11_common_31 : decode cX11_common 31 = .ok (.lload 4, 2) := by decide +kernel
theorem dX11_common_33 : decode cX11_common 33 = .ok (.lreturn, 1) := by decide +kernel
abbrev rmX11_common : Room := { frames := 0, cells := 0, slots := 0, locals := 0 }
abbrev sX11_common (E : EV) : List AV → AH → (Option AV → AH → Prop) → Prop := Spec E yX11_common cX11_common 10 (some .long) rmX11_common
theorem mX11_common : Mt yX11_common cX11_common 10 (some .long) 2 := ⟨k1262, k12, by decide +kernel⟩
theorem vX11_common : MtS yX11_common := k1261
def PX11_common_6 (E : EV) (post : Option AV → AH → Prop) (J6 : AH → Int64 → Int64 → Prop) (h : AH) (l4 : Int64) (l6 : Int64) : Prop :=
  ((lg_cmp l6 (0 : Int64)) = 0 → post (some (aJ l4)) h) ∧ (¬ (lg_cmp l6 (0 : Int64)) = 0 → ¬ l6 = 0 ∧ (∀ v1, v1 = (l4 - l4 / l6 * l6) → J6 h l6 v1))
theorem bX11_common_6 {E : EV} {X : AX} {post : Option AV → AH → Prop} (C : Cb E X cX11_common RX11 10 rmX11_common) (D : Cr E X (some .long) rmX11_common "common" post) {J6 : AH → Int64 → Int64 → Prop} (g6 : ∀ (h : AH) (l4 : Int64) (l6 : Int64), J6 h l4 l6 → Go E X 10 0 0 6 [(4, aJ l4), (6, aJ l6)] [] h) {h : AH} {l4 : Int64} {l6 : Int64} (w : PX11_common_6 E post J6 h l4 l6) : Go E X 10 0 0 6 [(4, aJ l4), (6, aJ l6)] [] h := by
  unfold PX11_common_6 at w
  refine r_lload C dX11_common_6 1 rfl ?_
  refine r_lconst (v := 0) C dX11_common_8 rfl ?_
  refine r_lcmp C dX11_common_9 ?_
  refine r_if_eq C dX11_common_10 (tgt := 31) rfl (fun hc => ?_) (fun hc => ?_)
  · have w := w.1 hc
    refine r_lload C dX11_common_31 0 rfl ?_
    exact r_lret C D rfl (Nat.zero_le _) (Nat.zero_le _) dX11_common_33 w
  · have w := w.2 hc
    refine r_lload C dX11_common_13 0 rfl ?_
    refine r_lload C dX11_common_15 1 rfl ?_
    refine r_lrem C dX11_common_17 w.1 ?_
    have w := w.2
    refine r_lstore C dX11_common_18 (by decide) rfl ?_
    have w := w _ rfl
    skip
    refine r_lload C dX11_common_20 2 rfl ?_
    refine r_lstore C dX11_common_22 (by decide) rfl ?_
    refine r_lload C dX11_common_24 1 rfl ?_
    refine r_lstore C dX11_common_26 (by decide) rfl ?_
    refine r_goto C dX11_common_28 (tgt := 6) rfl ?_
    exact r_sub [1, 0] rfl (g6 h l6 (l4 - l4 / l6 * l6) w)
theorem lpX11_common_6 {E : EV} {X : AX} {post : Option AV → AH → Prop} (C : Cb E X cX11_common RX11 10 rmX11_common) (D : Cr E X (some .long) rmX11_common "common" post) (I : Nat → AH → Int64 → Int64 → Prop) (step : ∀ (z : Nat) (h : AH) (l4 : Int64) (l6 : Int64), I z h l4 l6 → PX11_common_6 E post (fun h l4 l6 => ∃ z', z' < z ∧ I z' h l4 l6) h l4 l6) : ∀ (z : Nat) (h : AH) (l4 : Int64) (l6 : Int64), I z h l4 l6 → Go E X 10 0 0 6 [(4, aJ l4), (6, aJ l6)] [] h := by
  intro z
  induction z using Nat.strongRecOn with
  | _ z ih =>
    intro h l4 l6 hI
    exact bX11_common_6 C D (fun h l4 l6 hJ => by obtain ⟨z', hz, hi⟩ := hJ; exact ih z' hz h l4 l6 hi) (step z h l4 l6 hI)
def PX11_common_0 (E : EV) (post : Option AV → AH → Prop) (J6 : AH → Int64 → Int64 → Prop) (h : AH) (l0 : Int64) (l2 : Int64) : Prop :=
  J6 h l0 l2
theorem bX11_common_0 {E : EV} {X : AX} {post : Option AV → AH → Prop} (C : Cb E X cX11_common RX11 10 rmX11_common) (D : Cr E X (some .long) rmX11_common "common" post) {J6 : AH → Int64 → Int64 → Prop} (g6 : ∀ (h : AH) (l4 : Int64) (l6 : Int64), J6 h l4 l6 → Go E X 10 0 0 6 [(4, aJ l4), (6, aJ l6)] [] h) {h : AH} {l0 : Int64} {l2 : Int64} (w : PX11_common_0 E post J6 h l0 l2) : Go E X 10 0 0 0 [(0, aJ l0), (2, aJ l2)] [] h := by
  unfold PX11_common_0 at w
  refine r_lload_n C dX11_common_0 rfl 0 rfl ?_
  refine r_lstore C dX11_common_1 (by decide) rfl ?_
  refine r_lload_n C dX11_common_3 rfl 2 rfl ?_
  refine r_lstore C dX11_common_4 (by decide) rfl ?_
  exact r_sub [1, 0] rfl (g6 h l0 l2 w)
theorem eX11_common {E : EV} {post : Option AV → AH → Prop} {h : AH} {l0 : Int64} {l2 : Int64} {J6 : AH → Int64 → Int64 → Prop} (g6 : ∀ X : AX, Cb E X cX11_common RX11 10 rmX11_common → Cr E X (some .long) rmX11_common "common" post → ∀ (h : AH) (l4 : Int64) (l6 : Int64), J6 h l4 l6 → Go E X 10 0 0 6 [(4, aJ l4), (6, aJ l6)] [] h) (w : PX11_common_0 E post J6 h l0 l2) : sX11_common E [aJ l0, aJ l2] h post := Spec.of RX11 rfl rfl (Nat.le_of_ble_eq_true rfl) fun X C D => bX11_common_0 C D (g6 X C D) w
theorem dX11_slides_0 : decode cX11_slides 0 = .ok (.iconst 0, 1) := by decide +kernel
theorem dX11_slides_1 : decode cX11_slides 1 = .ok (.istore_n 3, 1) := by decide +kernel
theorem dX11_slides_2 : decode cX11_slides 2 = .ok (.iload_n 1, 1) := by decide +kernel
theorem dX11_slides_3 : decode cX11_slides 3 = .ok (.invokestatic 257, 3) := by decide +kernel
theorem dX11_slides_6 : decode cX11_slides 6 = .ok (.bipush 40, 2) := by decide +kernel
theorem dX11_slides_8 : decode cX11_slides 8 = .ok (.iadd, 1) := by decide +kernel
theorem dX11_slides_9 : decode cX11_slides 9 = .ok (.istore 4, 2) := by decide +kernel
theorem dX11_slides_11 : decode cX11_slides 11 = .ok (.aload_n 0, 1) := by decide +kernel
theorem dX11_slides_12 : decode cX11_slides 12 = .ok (.iload_n 1, 1) := by decide +kernel
theorem dX11_slides_13 : decode cX11_slides 13 = .ok (.invokestatic 257, 3) := by decide +kernel
theorem dX11_slides_16 : decode cX11_slides 16 = .ok (.aload_n 0, 1) := by decide +kernel
theorem dX11_slides_17 : decode cX11_slides 17 = .ok (.getfield 7, 3) := by decide +kernel
theorem dX11_slides_20 : decode cX11_slides 20 = .ok (.iload 4, 2) := by decide +kernel
theorem dX11_slides_22 : decode cX11_slides 22 = .ok (.iaload, 1) := by decide +kernel
theorem dX11_slides_23 : decode cX11_slides 23 = .ok (.iload_n 2, 1) := by decide +kernel
theorem dX11_slides_24 : decode cX11_slides 24 = .ok (.invokestatic 73, 3) := by decide +kernel
theorem dX11_slides_27 : decode cX11_slides 27 = .ok (.iadd, 1) := by decide +kernel
theorem dX11_slides_28 : decode cX11_slides 28 = .ok (.aload_n 0, 1) := by decide +kernel
theorem dX11_slides_29 : decode cX11_slides 29 = .ok (.getfield 7, 3) := by decide +kernel
theorem dX11_slides_32 : decode cX11_slides 32 = .ok (.iload 4, 2) := by decide +kernel
theorem dX11_slides_34 : decode cX11_slides 34 = .ok (.iconst 1, 1) := by decide +kernel
theorem dX11_slides_35 : decode cX11_slides 35 = .ok (.iadd, 1) := by decide +kernel
theorem dX11_slides_36 : decode cX11_slides 36 = .ok (.iaload, 1) := by decide +kernel
theorem dX11_slides_37 : decode cX11_slides 37 = .ok (.iload_n 2, 1) := by decide +kernel
theorem dX11_slides_38 : decode cX11_slides 38 = .ok (.invokestatic 79, 3) := by decide +kernel
theorem dX11_slides_41 : decode cX11_slides 41 = .ok (.iadd, 1) := by decide +kernel
theorem dX11_slides_42 : decode cX11_slides 42 = .ok (.iload_n 1, 1) := by decide +kernel
theorem dX11_slides_43 : decode cX11_slides 43 = .ok (.invokevirtual 266, 3) := by decide +kernel
theorem dX11_slides_46 : decode cX11_slides 46 = .ok (.ifCond .eq 39, 3) := by decide +kernel
theorem dX11_slides_49 : decode cX11_slides 49 = .ok (.aload_n 0, 1) := by decide +kernel
theorem dX11_slides_50 : decode cX11_slides 50 = .ok (.getfield 7, 3) := by decide +kernel
theorem dX11_slides_53 : decode cX11_slides 53 = .ok (.iload 4, 2) := by decide +kernel
theorem dX11_slides_55 : decode cX11_slides 55 = .ok (.dup2, 1) := by decide +kernel
theorem dX11_slides_56 : decode cX11_slides 56 = .ok (.iaload, 1) := by decide +kernel
theorem dX11_slides_57 : decode cX11_slides 57 = .ok (.iload_n 2, 1) := by decide +kernel
theorem dX11_slides_58 : decode cX11_slides 58 = .ok (.invokestatic 73, 3) := by decide +kernel
theorem dX11_slides_61 : decode cX11_slides 61 = .ok (.iadd, 1) := by decide +kernel
theorem dX11_slides_62 : decode cX11_slides 62 = .ok (.iastore, 1) := by decide +kernel
theorem dX11_slides_63 : decode cX11_slides 63 = .ok (.aload_n 0, 1) := by decide +kernel
theorem dX11_slides_64 : decode cX11_slides 64 = .ok (.getfield 7, 3) := by decide +kernel
theorem dX11_slides_67 : decode cX11_slides 67 = .ok (.iload 4, 2) := by decide +kernel
theorem dX11_slides_69 : decode cX11_slides 69 = .ok (.iconst 1, 1) := by decide +kernel
theorem dX11_slides_70 : decode cX11_slides 70 = .ok (.iadd, 1) := by decide +kernel
theorem dX11_slides_71 : decode cX11_slides 71 = .ok (.dup2, 1) := by decide +kernel
theorem dX11_slides_72 : decode cX11_slides 72 = .ok (.iaload, 1) := by decide +kernel
theorem dX11_slides_73 : decode cX11_slides 73 = .ok (.iload_n 2, 1) := by decide +kernel
theorem dX11_slides_74 : decode cX11_slides 74 = .ok (.invokestatic 79, 3) := by decide +kernel
theorem dX11_slides_77 : decode cX11_slides 77 = .ok (.iadd, 1) := by decide +kernel
theorem dX11_slides_78 : decode cX11_slides 78 = .ok (.iastore, 1) := by decide +kernel
theorem dX11_slides_79 : decode cX11_slides 79 = .ok (.iinc 3 1, 3) := by decide +kernel
theorem dX11_slides_82 : decode cX11_slides 82 = .ok (.goto (-71), 3) := by decide +kernel
theorem dX11_slides_85 : decode cX11_slides 85 = .ok (.iload_n 3, 1) := by decide +kernel
theorem dX11_slides_86 : decode cX11_slides 86 = .ok (.ireturn, 1) := by decide +kernel
abbrev rmX11_slides : Room := { frames := 6, cells := 0, slots := 0, locals := 240 }
abbrev sX11_slides (E : EV) : List AV → AH → (Option AV → AH → Prop) → Prop := Spec E yX11_slides cX11_slides 5 (some .int) rmX11_slides
theorem mX11_slides : Mt yX11_slides cX11_slides 5 (some .int) 2 := ⟨k1356, k12, by decide +kernel⟩
theorem vX11_slides : MtV yX11_slides 11 := ⟨k1355, kp77, by decide, (RX11, TX11, 26), rfl, rfl⟩
def PX11_slides_11 (E : EV) (post : Option AV → AH → Prop) (J11 : AH → Option Nat → Int32 → Int32 → Int32 → Int32 → Prop) (h : AH) (l0 : Option Nat) (l1 : Int32) (l2 : Int32) (l3 : Int32) (l4 : Int32) : Prop :=
  CS (sX11_itemShape E) [aI l1] h (kI fun x1 h2 => rdP h2 l0 11 0 fun x3 => aldI h2 x3 0 l4 fun x4 => CS (sX11_dirX E) [aI l2] h2 (kI fun x5 h6 => rdP h6 l0 11 0 fun x7 => aldI h6 x7 0 (l4 + (1 : Int32)) fun x8 => CS (sX11_dirY E) [aI l2] h6 (kI fun x9 h10 => CV (sX11_fits E) l0 11 [aI x1, aI (x4 + x5), aI (x8 + x9), aI l1] h10 (kI fun x11 h12 => (x11 = 0 → post (some (aI l3)) h12) ∧ (¬ x11 = 0 → rdP h12 l0 11 0 fun x13 => aldI h12 x13 0 l4 fun x14 => CS (sX11_dirX E) [aI l2] h12 (kI fun x15 h16 => astI h16 x13 0 l4 (x14 + x15) fun h17 => rdP h17 l0 11 0 fun x18 => aldI h17 x18 0 (l4 + (1 : Int32)) fun x19 => CS (sX11_dirY E) [aI l2] h17 (kI fun x20 h21 => astI h21 x18 0 (l4 + (1 : Int32)) (x19 + x20) fun h22 => J11 h22 l0 l1 l2 (l3 + (1 : Int32)) l4)))))))
theorem bX11_slides_11 {E : EV} {X : AX} {post : Option AV → AH → Prop} (C : Cb E X cX11_slides RX11 5 rmX11_slides) (D : Cr E X (some .int) rmX11_slides "slides" post) {J11 : AH → Option Nat → Int32 → Int32 → Int32 → Int32 → Prop} (g11 : ∀ (h : AH) (l0 : Option Nat) (l1 : Int32) (l2 : Int32) (l3 : Int32) (l4 : Int32), J11 h l0 l1 l2 l3 l4 → Go E X 5 0 0 11 [(0, aP l0), (1, aI l1), (2, aI l2), (3, aI l3), (4, aI l4)] [] h) {h : AH} {l0 : Option Nat} {l1 : Int32} {l2 : Int32} {l3 : Int32} {l4 : Int32} (w : PX11_slides_11 E post J11 h l0 l1 l2 l3 l4) : Go E X 5 0 0 11 [(0, aP l0), (1, aI l1), (2, aI l2), (3, aI l3), (4, aI l4)] [] h := by
  unfold PX11_slides_11 at w
  refine r_aload_n C dX11_slides_11 rfl 0 rfl ?_
  refine r_iload_n C dX11_slides_12 rfl 1 rfl ?_
  refine r_csI (rm' := rmX11_itemShape) C mX11_itemShape vX11_itemShape k1281 [aI l1] [aP l0] rfl rfl (Nat.le_of_ble_eq_true rfl) (by decide) ⟨Nat.zero_le _, Nat.zero_le _⟩ 0 0 rfl rfl dX11_slides_13 w (fun x1 h2 w => ?_)
  refine r_aload_n C dX11_slides_16 rfl 0 rfl ?_
  refine r_getP C fcX11 (f := 0) (by decide) rfl k943 dX11_slides_17 (w.mono fun x3 w => ?_)
  refine r_iload C dX11_slides_20 4 rfl ?_
  refine r_iald C dX11_slides_22 (w.mono fun x4 w => ?_)
  refine r_iload_n C dX11_slides_23 rfl 2 rfl ?_
  refine r_csI (rm' := rmX11_dirX) C mX11_dirX vX11_dirX k1175 [aI l2] [aI x4, aI x1, aP l0] rfl rfl (Nat.le_of_ble_eq_true rfl) (by decide) ⟨Nat.zero_le _, Nat.zero_le _⟩ 0 0 rfl rfl dX11_slides_24 w (fun x5 h6 w => ?_)
  refine r_iadd C dX11_slides_27 ?_
  refine r_aload_n C dX11_slides_28 rfl 0 rfl ?_
  refine r_getP C fcX11 (f := 0) (by decide) rfl k943 dX11_slides_29 (w.mono fun x7 w => ?_)
  refine r_iload C dX11_slides_32 4 rfl ?_
  refine r_iconst (v := 1) C dX11_slides_34 rfl ?_
  refine r_iadd C dX11_slides_35 ?_
  refine r_iald C dX11_slides_36 (w.mono fun x8 w => ?_)
  refine r_iload_n C dX11_slides_37 rfl 2 rfl ?_
  refine r_csI (rm' := rmX11_dirY) C mX11_dirY vX11_dirY k1178 [aI l2] [aI x8, aI (x4 + x5), aI x1, aP l0] rfl rfl (Nat.le_of_ble_eq_true rfl) (by decide) ⟨Nat.zero_le _, Nat.zero_le _⟩ 0 0 rfl rfl dX11_slides_38 w (fun x9 h10 w => ?_)
  refine r_iadd C dX11_slides_41 ?_
  refine r_iload_n C dX11_slides_42 rfl 1 rfl ?_
  refine r_cvI (rm' := rmX11_fits) C mX11_fits vX11_fits k1300 [aI x1, aI (x4 + x5), aI (x8 + x9), aI l1] [] rfl rfl (Nat.le_of_ble_eq_true rfl) (by decide) ⟨Nat.zero_le _, Nat.zero_le _⟩ 0 0 rfl rfl dX11_slides_43 w (fun x11 h12 w => ?_)
  refine r_if_eq C dX11_slides_46 (tgt := 85) rfl (fun hc => ?_) (fun hc => ?_)
  · have w := w.1 hc
    refine r_iload_n C dX11_slides_85 rfl 3 rfl ?_
    exact r_iret C D rfl (Nat.zero_le _) (Nat.zero_le _) dX11_slides_86 w
  · have w := w.2 hc
    refine r_aload_n C dX11_slides_49 rfl 0 rfl ?_
    refine r_getP C fcX11 (f := 0) (by decide) rfl k943 dX11_slides_50 (w.mono fun x13 w => ?_)
    refine r_iload C dX11_slides_53 4 rfl ?_
    refine r_dup2 C dX11_slides_55 rfl rfl ?_
    refine r_iald C dX11_slides_56 (w.mono fun x14 w => ?_)
    refine r_iload_n C dX11_slides_57 rfl 2 rfl ?_
    refine r_csI (rm' := rmX11_dirX) C mX11_dirX vX11_dirX k1175 [aI l2] [aI x14, aI l4, aP x13] rfl rfl (Nat.le_of_ble_eq_true rfl) (by decide) ⟨Nat.zero_le _, Nat.zero_le _⟩ 0 0 rfl rfl dX11_slides_58 w (fun x15 h16 w => ?_)
    refine r_iadd C dX11_slides_61 ?_
    refine r_iast C dX11_slides_62 (w.mono fun h17 w => ?_)
    refine r_aload_n C dX11_slides_63 rfl 0 rfl ?_
    refine r_getP C fcX11 (f := 0) (by decide) rfl k943 dX11_slides_64 (w.mono fun x18 w => ?_)
    refine r_iload C dX11_slides_67 4 rfl ?_
    refine r_iconst (v := 1) C dX11_slides_69 rfl ?_
    refine r_iadd C dX11_slides_70 ?_
    refine r_dup2 C dX11_slides_71 rfl rfl ?_
    refine r_iald C dX11_slides_72 (w.mono fun x19 w => ?_)
    refine r_iload_n C dX11_slides_73 rfl 2 rfl ?_
    refine r_csI (rm' := rmX11_dirY) C mX11_dirY vX11_dirY k1178 [aI l2] [aI x19, aI (l4 + (1 : Int32)), aP x18] rfl rfl (Nat.le_of_ble_eq_true rfl) (by decide) ⟨Nat.zero_le _, Nat.zero_le _⟩ 0 0 rfl rfl dX11_slides_74 w (fun x20 h21 w => ?_)
    refine r_iadd C dX11_slides_77 ?_
    refine r_iast C dX11_slides_78 (w.mono fun h22 w => ?_)
    refine r_iinc C dX11_slides_79 3 rfl (v := 1) rfl (by decide) rfl ?_
    refine r_goto C dX11_slides_82 (tgt := 11) rfl ?_
    exact r_sub [1, 2, 3, 0, 4] rfl (g11 h22 l0 l1 l2 (l3 + (1 : Int32)) l4 w)
theorem lpX11_slides_11 {E : EV} {X : AX} {post : Option AV → AH → Prop} (C : Cb E X cX11_slides RX11 5 rmX11_slides) (D : Cr E X (some .int) rmX11_slides "slides" post) (I : Nat → AH → Option Nat → Int32 → Int32 → Int32 → Int32 → Prop) (step : ∀ (z : Nat) (h : AH) (l0 : Option Nat) (l1 : Int32) (l2 : Int32) (l3 : Int32) (l4 : Int32), I z h l0 l1 l2 l3 l4 → PX11_slides_11 E post (fun h l0 l1 l2 l3 l4 => ∃ z', z' < z ∧ I z' h l0 l1 l2 l3 l4) h l0 l1 l2 l3 l4) : ∀ (z : Nat) (h : AH) (l0 : Option Nat) (l1 : Int32) (l2 : Int32) (l3 : Int32) (l4 : Int32), I z h l0 l1 l2 l3 l4 → Go E X 5 0 0 11 [(0, aP l0), (1, aI l1), (2, aI l2), (3, aI l3), (4, aI l4)] [] h := by
  intro z
  induction z using Nat.strongRecOn with
  | _ z ih =>
    intro h l0 l1 l2 l3 l4 hI
    exact bX11_slides_11 C D (fun h l0 l1 l2 l3 l4 hJ => by obtain ⟨z', hz, hi⟩ := hJ; exact ih z' hz h l0 l1 l2 l3 l4 hi) (step z h l0 l1 l2 l3 l4 hI)
def PX11_slides_0 (E : EV) (post : Option AV → AH → Prop) (J11 : AH → Option Nat → Int32 → Int32 → Int32 → Int32 → Prop) (h : AH) (l0 : Option Nat) (l1 : Int32) (l2 : Int32) : Prop :=
  CS (sX11_itemShape E) [aI l1] h (kI fun x2 h3 => ∀ v4, v4 = (x2 + (40 : Int32)) → J11 h3 l0 l1 l2 (0 : Int32) v4)
theorem bX11_slides_0 {E : EV} {X : AX} {post : Option AV → AH → Prop} (C : Cb E X cX11_slides RX11 5 rmX11_slides) (D : Cr E X (some .int) rmX11_slides "slides" post) {J11 : AH → Option Nat → Int32 → Int32 → Int32 → Int32 → Prop} (g11 : ∀ (h : AH) (l0 : Option Nat) (l1 : Int32) (l2 : Int32) (l3 : Int32) (l4 : Int32), J11 h l0 l1 l2 l3 l4 → Go E X 5 0 0 11 [(0, aP l0), (1, aI l1), (2, aI l2), (3, aI l3), (4, aI l4)] [] h) {h : AH} {l0 : Option Nat} {l1 : Int32} {l2 : Int32} (w : PX11_slides_0 E post J11 h l0 l1 l2) : Go E X 5 0 0 0 [(0, aP l0), (1, aI l1), (2, aI l2)] [] h := by
  unfold PX11_slides_0 at w
  refine r_iconst (v := 0) C dX11_slides_0 rfl ?_
  refine r_istore_n C dX11_slides_1 rfl (by decide) rfl ?_
  refine r_iload_n C dX11_slides_2 rfl 2 rfl ?_
  refine r_csI (rm' := rmX11_itemShape) C mX11_itemShape vX11_itemShape k1281 [aI l1] [] rfl rfl (Nat.le_of_ble_eq_true rfl) (by decide) ⟨Nat.zero_le _, Nat.zero_le _⟩ 0 0 rfl rfl dX11_slides_3 w (fun x2 h3 w => ?_)
  refine r_bipush (v := 40) C dX11_slides_6 rfl ?_
  refine r_iadd C dX11_slides_8 ?_
  refine r_istore C dX11_slides_9 (by decide) rfl ?_
  have w := w _ rfl
  exact r_sub [2, 3, 4, 1, 0] rfl (g11 h3 l0 l1 l2 (0 : Int32) (x2 + (40 : Int32)) w)
theorem eX11_slides {E : EV} {post : Option AV → AH → Prop} {h : AH} {l0 : Option Nat} {l1 : Int32} {l2 : Int32} {J11 : AH → Option Nat → Int32 → Int32 → Int32 → Int32 → Prop} (g11 : ∀ X : AX, Cb E X cX11_slides RX11 5 rmX11_slides → Cr E X (some .int) rmX11_slides "slides" post → ∀ (h : AH) (l0 : Option Nat) (l1 : Int32) (l2 : Int32) (l3 : Int32) (l4 : Int32), J11 h l0 l1 l2 l3 l4 → Go E X 5 0 0 11 [(0, aP l0), (1, aI l1), (2, aI l2), (3, aI l3), (4, aI l4)] [] h) (w : PX11_slides_0 E post J11 h l0 l1 l2) : sX11_slides E [aP l0, aI l1, aI l2] h post := Spec.of RX11 rfl rfl (Nat.le_of_ble_eq_true rfl) fun X C D => bX11_slides_0 C D (g11 X C D) w
theorem dX11_compact_0 : decode cX11_compact 0 = .ok (.aload_n 0, 1) := by decide +kernel
theorem dX11_compact_1 : decode cX11_compact 1 = .ok (.invokevirtual 304, 3) := by decide +kernel
theorem dX11_compact_4 : decode cX11_compact 4 = .ok (.ifCond .ne 6, 3) := by decide +kernel
theorem dX11_compact_7 : decode cX11_compact 7 = .ok (.ldc 226, 2) := by decide +kernel
theorem dX11_compact_9 : decode cX11_compact 9 = .ok (.ireturn, 1) := by decide +kernel
theorem dX11_compact_10 : decode cX11_compact 10 = .ok (.aload_n 0, 1) := by decide +kernel
theorem dX11_compact_11 : decode cX11_compact 11 = .ok (.invokevirtual 188, 3) := by decide +kernel
theorem dX11_compact_14 : decode cX11_compact 14 = .ok (.iconst 0, 1) := by decide +kernel
theorem dX11_compact_15 : decode cX11_compact 15 = .ok (.istore_n 1, 1) := by decide +kernel
theorem dX11_compact_16 : decode cX11_compact 16 = .ok (.iconst 1, 1) := by decide +kernel
theorem dX11_compact_17 : decode cX11_compact 17 = .ok (.istore_n 2, 1) := by decide +kernel
theorem dX11_compact_18 : decode cX11_compact 18 = .ok (.iload_n 2, 1) := by decide +kernel
theorem dX11_compact_19 : decode cX11_compact 19 = .ok (.ifCond .le 49, 3) := by decide +kernel
theorem dX11_compact_22 : decode cX11_compact 22 = .ok (.iconst 0, 1) := by decide +kernel
theorem dX11_compact_23 : decode cX11_compact 23 = .ok (.istore_n 2, 1) := by decide +kernel
theorem dX11_compact_24 : decode cX11_compact 24 = .ok (.iconst 0, 1) := by decide +kernel
theorem dX11_compact_25 : decode cX11_compact 25 = .ok (.istore_n 3, 1) := by decide +kernel
theorem dX11_compact_26 : decode cX11_compact 26 = .ok (.iload_n 3, 1) := by decide +kernel
theorem dX11_compact_27 : decode cX11_compact 27 = .ok (.aload_n 0, 1) := by decide +kernel
theorem dX11_compact_28 : decode cX11_compact 28 = .ok (.getfield 7, 3) := by decide +kernel
theorem dX11_compact_31 : decode cX11_compact 31 = .ok (.iconst 3, 1) := by decide +kernel
theorem dX11_compact_32 : decode cX11_compact 32 = .ok (.iaload, 1) := by decide +kernel
theorem dX11_compact_33 : decode cX11_compact 33 = .ok (.if_icmp .ge 28, 3) := by decide +kernel
theorem dX11_compact_36 : decode cX11_compact 36 = .ok (.iload_n 2, 1) := by decide +kernel
theorem dX11_compact_37 : decode cX11_compact 37 = .ok (.aload_n 0, 1) := by decide +kernel
theorem dX11_compact_38 : decode cX11_compact 38 = .ok (.iload_n 3, 1) := by decide +kernel
theorem dX11_compact_39 : decode cX11_compact 39 = .ok (.bipush 6, 2) := by decide +kernel
theorem dX11_compact_41 : decode cX11_compact 41 = .ok (.invokevirtual 301, 3) := by decide +kernel
theorem dX11_compact_44 : decode cX11_compact 44 = .ok (.iadd, 1) := by decide +kernel
theorem dX11_compact_45 : decode cX11_compact 45 = .ok (.istore_n 2, 1) := by decide +kernel
theorem dX11_compact_46 : decode cX11_compact 46 = .ok (.iload_n 2, 1) := by decide +kernel
theorem dX11_compact_47 : decode cX11_compact 47 = .ok (.aload_n 0, 1) := by decide +kernel
theorem dX11_compact_48 : decode cX11_compact 48 = .ok (.iload_n 3, 1) := by decide +kernel
theorem dX11_compact_49 : decode cX11_compact 49 = .ok (.iconst 4, 1) := by decide +kernel
theorem dX11_compact_50 : decode cX11_compact 50 = .ok (.invokevirtual 301, 3) := by decide +kernel
theorem dX11_compact_53 : decode cX11_compact 53 = .ok (.iadd, 1) := by decide +kernel
theorem dX11_compact_54 : decode cX11_compact 54 = .ok (.istore_n 2, 1) := by decide +kernel
theorem dX11_compact_55 : decode cX11_compact 55 = .ok (.iinc 3 1, 3) := by decide +kernel
theorem dX11_compact_58 : decode cX11_compact 58 = .ok (.goto (-32), 3) := by decide +kernel
theorem dX11_compact_61 : decode cX11_compact 61 = .ok (.iload_n 1, 1) := by decide +kernel
theorem dX11_compact_62 : decode cX11_compact 62 = .ok (.iload_n 2, 1) := by decide +kernel
theorem dX11_compact_63 : decode cX11_compact 63 = .ok (.iadd, 1) := by decide +kernel
theorem dX11_compact_64 : decode cX11_compact 64 = .ok (.istore_n 1, 1) := by decide +kernel
theorem dX11_compact_65 : decode cX11_compact 65 = .ok (.goto (-47), 3) := by decide +kernel
theorem dX11_compact_68 : decode cX11_compact 68 = .ok (.iload_n 1, 1) := by decide +kernel
theorem dX11_compact_69 : decode cX11_compact 69 = .ok (.ireturn, 1) := by decide +kernel
abbrev rmX11_compact : Room := { frames := 7, cells := 0, slots := 0, locals := 280 }
abbrev sX11_compact (E : EV) : List AV → AH → (Option AV → AH → Prop) → Prop := Spec E yX11_compact cX11_compact 4 (some .int) rmX11_compact
theorem mX11_compact : Mt yX11_compact cX11_compact 4 (some .int) 0 := ⟨k1360, k12, by decide +kernel⟩
theorem vX11_compact : MtV yX11_compact 11 := ⟨k1358, k1359, by decide, (RX11, TX11, 26), rfl, rfl⟩
def PX11_compact_26 (E : EV) (post : Option AV → AH → Prop) (J18 : AH → Option Nat → Int32 → Int32 → Prop) (J26 : AH → Option Nat → Int32 → Int32 → Int32 → Prop) (h : AH) (l0 : Option Nat) (l1 : Int32) (l2 : Int32) (l3 : Int32) : Prop :=
  rdP h l0 11 0 fun x1 => aldI h x1 0 (3 : Int32) fun x2 => (x2 ≤ l3 → ∀ v3, v3 = (l1 + l2) → J18 h l0 v3 l2) ∧ (¬ x2 ≤ l3 → CV (sX11_slides E) l0 11 [aI l3, aI (6 : Int32)] h (kI fun x3 h4 => ∀ v5, v5 = (l2 + x3) → CV (sX11_slides E) l0 11 [aI l3, aI (4 : Int32)] h4 (kI fun x6 h7 => ∀ v8, v8 = (v5 + x6) → J26 h7 l0 l1 v8 (l3 + (1 : Int32)))))
theorem bX11_compact_26 {E : EV} {X : AX} {post : Option AV → AH → Prop} (C : Cb E X cX11_compact RX11 4 rmX11_compact) (D : Cr E X (some .int) rmX11_compact "compact" post) {J18 : AH → Option Nat → Int32 → Int32 → Prop} (g18 : ∀ (h : AH) (l0 : Option Nat) (l1 : Int32) (l2 : Int32), J18 h l0 l1 l2 → Go E X 4 0 0 18 [(0, aP l0), (1, aI l1), (2, aI l2)] [] h) {J26 : AH → Option Nat → Int32 → Int32 → Int32 → Prop} (g26 : ∀ (h : AH) (l0 : Option Nat) (l1 : Int32) (l2 : Int32) (l3 : Int32), J26 h l0 l1 l2 l3 → Go E X 4 0 0 26 [(0, aP l0), (1, aI l1), (2, aI l2), (3, aI l3)] [] h) {h : AH} {l0 : Option Nat} {l1 : Int32} {l2 : Int32} {l3 : Int32} (w : PX11_compact_26 E post J18 J26 h l0 l1 l2 l3) : Go E X 4 0 0 26 [(0, aP l0), (1, aI l1), (2, aI l2), (3, aI l3)] [] h := by
  unfold PX11_compact_26 at w
  refine r_iload_n C dX11_compact_26 rfl 3 rfl ?_
  refine r_aload_n C dX11_compact_27 rfl 0 rfl ?_
  refine r_getP C fcX11 (f := 0) (by decide) rfl k943 dX11_compact_28 (w.mono fun x1 w => ?_)
  refine r_iconst (v := 3) C dX11_compact_31 rfl ?_
  refine r_iald C dX11_compact_32 (w.mono fun x2 w => ?_)
  refine r_icmp_ge C dX11_compact_33 (tgt := 61) rfl (fun hc => ?_) (fun hc => ?_)
  · have w := w.1 hc
    refine r_iload_n C dX11_compact_61 rfl 1 rfl ?_
    refine r_iload_n C dX11_compact_62 rfl 2 rfl ?_
    refine r_iadd C dX11_compact_63 ?_
    refine r_istore_n C dX11_compact_64 rfl (by decide) rfl ?_
    have w := w _ rfl
    skip
    refine r_goto C dX11_compact_65 (tgt := 18) rfl ?_
    exact r_sub [1, 0, 2] rfl (g18 h l0 (l1 + l2) l2 w)
  · have w := w.2 hc
    refine r_iload_n C dX11_compact_36 rfl 2 rfl ?_
    refine r_aload_n C dX11_compact_37 rfl 0 rfl ?_
    refine r_iload_n C dX11_compact_38 rfl 3 rfl ?_
    refine r_bipush (v := 6) C dX11_compact_39 rfl ?_
    refine r_cvI (rm' := rmX11_slides) C mX11_slides vX11_slides k1353 [aI l3, aI (6 : Int32)] [aI l2] rfl rfl (Nat.le_of_ble_eq_true rfl) (by decide) ⟨Nat.zero_le _, Nat.zero_le _⟩ 0 0 rfl rfl dX11_compact_41 w (fun x3 h4 w => ?_)
    refine r_iadd C dX11_compact_44 ?_
    refine r_istore_n C dX11_compact_45 rfl (by decide) rfl ?_
    have w := w _ rfl
    skip
    refine r_iload_n C dX11_compact_46 rfl 0 rfl ?_
    refine r_aload_n C dX11_compact_47 rfl 1 rfl ?_
    refine r_iload_n C dX11_compact_48 rfl 3 rfl ?_
    refine r_iconst (v := 4) C dX11_compact_49 rfl ?_
    refine r_cvI (rm' := rmX11_slides) C mX11_slides vX11_slides k1353 [aI l3, aI (4 : Int32)] [aI (l2 + x3)] rfl rfl (Nat.le_of_ble_eq_true rfl) (by decide) ⟨Nat.zero_le _, Nat.zero_le _⟩ 0 0 rfl rfl dX11_compact_50 w (fun x6 h7 w => ?_)
    refine r_iadd C dX11_compact_53 ?_
    refine r_istore_n C dX11_compact_54 rfl (by decide) rfl ?_
    have w := w _ rfl
    skip
    refine r_iinc C dX11_compact_55 3 rfl (v := 1) rfl (by decide) rfl ?_
    refine r_goto C dX11_compact_58 (tgt := 26) rfl ?_
    exact r_sub [2, 3, 1, 0] rfl (g26 h7 l0 l1 ((l2 + x3) + x6) (l3 + (1 : Int32)) w)
theorem lpX11_compact_26 {E : EV} {X : AX} {post : Option AV → AH → Prop} (C : Cb E X cX11_compact RX11 4 rmX11_compact) (D : Cr E X (some .int) rmX11_compact "compact" post) {J18 : AH → Option Nat → Int32 → Int32 → Prop} (g18 : ∀ (h : AH) (l0 : Option Nat) (l1 : Int32) (l2 : Int32), J18 h l0 l1 l2 → Go E X 4 0 0 18 [(0, aP l0), (1, aI l1), (2, aI l2)] [] h) (I : Nat → AH → Option Nat → Int32 → Int32 → Int32 → Prop) (step : ∀ (z : Nat) (h : AH) (l0 : Option Nat) (l1 : Int32) (l2 : Int32) (l3 : Int32), I z h l0 l1 l2 l3 → PX11_compact_26 E post J18 (fun h l0 l1 l2 l3 => ∃ z', z' < z ∧ I z' h l0 l1 l2 l3) h l0 l1 l2 l3) : ∀ (z : Nat) (h : AH) (l0 : Option Nat) (l1 : Int32) (l2 : Int32) (l3 : Int32), I z h l0 l1 l2 l3 → Go E X 4 0 0 26 [(0, aP l0), (1, aI l1), (2, aI l2), (3, aI l3)] [] h := by
  intro z
  induction z using Nat.strongRecOn with
  | _ z ih =>
    intro h l0 l1 l2 l3 hI
    exact bX11_compact_26 C D g18 (fun h l0 l1 l2 l3 hJ => by obtain ⟨z', hz, hi⟩ := hJ; exact ih z' hz h l0 l1 l2 l3 hi) (step z h l0 l1 l2 l3 hI)
def PX11_compact_18 (E : EV) (post : Option AV → AH → Prop) (J26 : AH → Option Nat → Int32 → Int32 → Int32 → Prop) (h : AH) (l0 : Option Nat) (l1 : Int32) (l2 : Int32) : Prop :=
  (l2 ≤ 0 → post (some (aI l1)) h) ∧ (¬ l2 ≤ 0 → J26 h l0 l1 (0 : Int32) (0 : Int32))
theorem bX11_compact_18 {E : EV} {X : AX} {post : Option AV → AH → Prop} (C : Cb E X cX11_compact RX11 4 rmX11_compact) (D : Cr E X (some .int) rmX11_compact "compact" post) {J26 : AH → Option Nat → Int32 → Int32 → Int32 → Prop} (g26 : ∀ (h : AH) (l0 : Option Nat) (l1 : Int32) (l2 : Int32) (l3 : Int32), J26 h l0 l1 l2 l3 → Go E X 4 0 0 26 [(0, aP l0), (1, aI l1), (2, aI l2), (3, aI l3)] [] h) {h : AH} {l0 : Option Nat} {l1 : Int32} {l2 : Int32} (w : PX11_compact_18 E post J26 h l0 l1 l2) : Go E X 4 0 0 18 [(0, aP l0), (1, aI l1), (2, aI l2)] [] h := by
  unfold PX11_compact_18 at w
  refine r_iload_n C dX11_compact_18 rfl 2 rfl ?_
  refine r_if_le C dX11_compact_19 (tgt := 68) rfl (fun hc => ?_) (fun hc => ?_)
  · have w := w.1 hc
    refine r_iload_n C dX11_compact_68 rfl 1 rfl ?_
    exact r_iret C D rfl (Nat.zero_le _) (Nat.zero_le _) dX11_compact_69 w
  · have w := w.2 hc
    refine r_iconst (v := 0) C dX11_compact_22 rfl ?_
    refine r_istore_n C dX11_compact_23 rfl (by decide) rfl ?_
    refine r_iconst (v := 0) C dX11_compact_24 rfl ?_
    refine r_istore_n C dX11_compact_25 rfl (by decide) rfl ?_
    exact r_sub [2, 3, 1, 0] rfl (g26 h l0 l1 (0 : Int32) (0 : Int32) w)
def PX11_compact_0 (E : EV) (post : Option AV → AH → Prop) (J18 : AH → Option Nat → Int32 → Int32 → Prop) (h : AH) (l0 : Option Nat) : Prop :=
  CV (sX11_canCompact E) l0 11 [] h (kI fun x1 h2 => (¬ x1 = 0 → CV (sX11_note E) l0 11 [] h2 (kV fun h4 => J18 h4 l0 (0 : Int32) (1 : Int32))) ∧ (x1 = 0 → post (some (aI (-1000009 : Int32))) h2))
theorem bX11_compact_0 {E : EV} {X : AX} {post : Option AV → AH → Prop} (C : Cb E X cX11_compact RX11 4 rmX11_compact) (D : Cr E X (some .int) rmX11_compact "compact" post) {J18 : AH → Option Nat → Int32 → Int32 → Prop} (g18 : ∀ (h : AH) (l0 : Option Nat) (l1 : Int32) (l2 : Int32), J18 h l0 l1 l2 → Go E X 4 0 0 18 [(0, aP l0), (1, aI l1), (2, aI l2)] [] h) {h : AH} {l0 : Option Nat} (w : PX11_compact_0 E post J18 h l0) : Go E X 4 0 0 0 [(0, aP l0)] [] h := by
  unfold PX11_compact_0 at w
  refine r_aload_n C dX11_compact_0 rfl 0 rfl ?_
  refine r_cvI (rm' := rmX11_canCompact) C mX11_canCompact vX11_canCompact k1361 [] [] rfl rfl (Nat.le_of_ble_eq_true rfl) (by decide) ⟨Nat.zero_le _, Nat.zero_le _⟩ 0 0 rfl rfl dX11_compact_1 w (fun x1 h2 w => ?_)
  refine r_if_ne C dX11_compact_4 (tgt := 10) rfl (fun hc => ?_) (fun hc => ?_)
  · have w := w.1 hc
    refine r_aload_n C dX11_compact_10 rfl 0 rfl ?_
    refine r_cvV (rm' := rmX11_note) C mX11_note vX11_note k1096 [] [] rfl rfl (Nat.le_of_ble_eq_true rfl) (by decide) ⟨Nat.zero_le _, Nat.zero_le _⟩ 0 0 rfl rfl dX11_compact_11 w (fun h4 w => ?_)
    refine r_iconst (v := 0) C dX11_compact_14 rfl ?_
    refine r_istore_n C dX11_compact_15 rfl (by decide) rfl ?_
    refine r_iconst (v := 1) C dX11_compact_16 rfl ?_
    refine r_istore_n C dX11_compact_17 rfl (by decide) rfl ?_
    exact r_sub [2, 1, 0] rfl (g18 h4 l0 (0 : Int32) (1 : Int32) w)
  · have w := w.2 hc
    refine r_ldc (v := -1000009) C dX11_compact_7 k1170 ?_
    exact r_iret C D rfl (Nat.zero_le _) (Nat.zero_le _) dX11_compact_9 w
theorem eX11_compact {E : EV} {post : Option AV → AH → Prop} {h : AH} {l0 : Option Nat} {J18 : AH → Option Nat → Int32 → Int32 → Prop} (g18 : ∀ X : AX, Cb E X cX11_compact RX11 4 rmX11_compact → Cr E X (some .int) rmX11_compact "compact" post → ∀ (h : AH) (l0 : Option Nat) (l1 : Int32) (l2 : Int32), J18 h l0 l1 l2 → Go E X 4 0 0 18 [(0, aP l0), (1, aI l1), (2, aI l2)] [] h) (w : PX11_compact_0 E post J18 h l0) : sX11_compact E [aP l0] h post := Spec.of RX11 rfl rfl (Nat.le_of_ble_eq_true rfl) fun X C D => bX11_compact_0 C D (g18 X C D) w
theorem dX11_isPlace_0 : decode cX11_isPlace 0 = .ok (.iload_n 0, 1) := by decide +kernel
theorem dX11_isPlace_1 : decode cX11_isPlace 1 = .ok (.bipush (-60), 2) := by decide +kernel
theorem dX11_isPlace_3 : decode cX11_isPlace 3 = .ok (.bipush 60, 2) := by decide +kernel
theorem dX11_isPlace_5 : decode cX11_isPlace 5 = .ok (.invokestatic 46, 3) := by decide +kernel
theorem dX11_isPlace_8 : decode cX11_isPlace 8 = .ok (.ifCond .eq 18, 3) := by decide +kernel
theorem dX11_isPlace_11 : decode cX11_isPlace 11 = .ok (.iload_n 1, 1) := by decide +kernel
theorem dX11_isPlace_12 : decode cX11_isPlace 12 = .ok (.bipush (-60), 2) := by decide +kernel
theorem dX11_isPlace_14 : decode cX11_isPlace 14 = .ok (.bipush 60, 2) := by decide +kernel
theorem dX11_isPlace_16 : decode cX11_isPlace 16 = .ok (.invokestatic 46, 3) := by decide +kernel
theorem dX11_isPlace_19 : decode cX11_isPlace 19 = .ok (.ifCond .eq 7, 3) := by decide +kernel
theorem dX11_isPlace_22 : decode cX11_isPlace 22 = .ok (.iconst 1, 1) := by decide +kernel
theorem dX11_isPlace_23 : decode cX11_isPlace 23 = .ok (.goto 4, 3) := by decide +kernel
theorem dX11_isPlace_26 : decode cX11_isPlace 26 = .ok (.iconst 0, 1) := by decide +kernel
theorem dX11_isPlace_27 : decode cX11_isPlace 27 = .ok (.ireturn, 1) := by decide +kernel
abbrev rmX11_isPlace : Room := { frames := 1, cells := 0, slots := 0, locals := 40 }
abbrev sX11_isPlace (E : EV) : List AV → AH → (Option AV → AH → Prop) → Prop := Spec E yX11_isPlace cX11_isPlace 2 (some .boolean) rmX11_isPlace
theorem mX11_isPlace : Mt yX11_isPlace cX11_isPlace 2 (some .boolean) 2 := ⟨k1216, k12, by decide +kernel⟩
theorem vX11_isPlace : MtS yX11_isPlace := k1215
def PX11_isPlace_0 (E : EV) (post : Option AV → AH → Prop) (h : AH) (l0 : Int32) (l1 : Int32) : Prop :=
  CS (sX11_in E) [aI l0, aI (-60 : Int32), aI (60 : Int32)] h (kI fun x1 h2 => (x1 = 0 → post (some (aI (0 : Int32))) h2) ∧ (¬ x1 = 0 → CS (sX11_in E) [aI l1, aI (-60 : Int32), aI (60 : Int32)] h2 (kI fun x3 h4 => (x3 = 0 → post (some (aI (0 : Int32))) h4) ∧ (¬ x3 = 0 → post (some (aI (1 : Int32))) h4))))
theorem bX11_isPlace_0 {E : EV} {X : AX} {post : Option AV → AH → Prop} (C : Cb E X cX11_isPlace RX11 2 rmX11_isPlace) (D : Cr E X (some .boolean) rmX11_isPlace "isPlace" post) {h : AH} {l0 : Int32} {l1 : Int32} (w : PX11_isPlace_0 E post h l0 l1) : Go E X 2 0 0 0 [(0, aI l0), (1, aI l1)] [] h := by
  unfold PX11_isPlace_0 at w
  refine r_iload_n C dX11_isPlace_0 rfl 0 rfl ?_
  refine r_bipush (v := -60) C dX11_isPlace_1 rfl ?_
  refine r_bipush (v := 60) C dX11_isPlace_3 rfl ?_
  refine r_csI (rm' := rmX11_in) C mX11_in vX11_in k1036 [aI l0, aI (-60 : Int32), aI (60 : Int32)] [] rfl rfl (Nat.le_of_ble_eq_true rfl) (by decide) ⟨Nat.zero_le _, Nat.zero_le _⟩ 0 0 rfl rfl dX11_isPlace_5 w (fun x1 h2 w => ?_)
  refine r_if_eq C dX11_isPlace_8 (tgt := 26) rfl (fun hc => ?_) (fun hc => ?_)
  · have w := w.1 hc
    refine r_iconst (v := 0) C dX11_isPlace_26 rfl ?_
    exact r_zret C D rfl (Or.inl rfl) (Nat.zero_le _) (Nat.zero_le _) dX11_isPlace_27 w
  · have w := w.2 hc
    refine r_iload_n C dX11_isPlace_11 rfl 1 rfl ?_
    refine r_bipush (v := -60) C dX11_isPlace_12 rfl ?_
    refine r_bipush (v := 60) C dX11_isPlace_14 rfl ?_
    refine r_csI (rm' := rmX11_in) C mX11_in vX11_in k1036 [aI l1, aI (-60 : Int32), aI (60 : Int32)] [] rfl rfl (Nat.le_of_ble_eq_true rfl) (by decide) ⟨Nat.zero_le _, Nat.zero_le _⟩ 0 0 rfl rfl dX11_isPlace_16 w (fun x3 h4 w => ?_)
    refine r_if_eq C dX11_isPlace_19 (tgt := 26) rfl (fun hc => ?_) (fun hc => ?_)
    · have w := w.1 hc
      refine r_iconst (v := 0) C dX11_isPlace_26 rfl ?_
      exact r_zret C D rfl (Or.inl rfl) (Nat.zero_le _) (Nat.zero_le _) dX11_isPlace_27 w
    · have w := w.2 hc
      refine r_iconst (v := 1) C dX11_isPlace_22 rfl ?_
      refine r_goto C dX11_isPlace_23 (tgt := 27) rfl ?_
      exact r_zret C D rfl (Or.inr rfl) (Nat.zero_le _) (Nat.zero_le _) dX11_isPlace_27 w
theorem eX11_isPlace {E : EV} {post : Option AV → AH → Prop} {h : AH} {l0 : Int32} {l1 : Int32} (w : PX11_isPlace_0 E post h l0 l1) : sX11_isPlace E [aI l0, aI l1] h post := Spec.of RX11 rfl rfl (Nat.le_of_ble_eq_true rfl) fun X C D => bX11_isPlace_0 C D w
theorem dX11_lies_0 : decode cX11_lies 0 = .ok (.aload_n 0, 1) := by decide +kernel
theorem dX11_lies_1 : decode cX11_lies 1 = .ok (.iload_n 1, 1) := by decide +kernel
theorem dX11_lies_2 : decode cX11_lies 2 = .ok (.iload_n 2, 1) := by decide +kernel
theorem dX11_lies_3 : decode cX11_lies 3 = .ok (.iload_n 3, 1) := by decide +kernel
theorem dX11_lies_4 : decode cX11_lies 4 = .ok (.iload 4, 2) := by decide +kernel
theorem dX11_lies_6 : decode cX11_lies 6 = .ok (.iconst 0, 1) := by decide +kernel
theorem dX11_lies_7 : decode cX11_lies 7 = .ok (.iconst 0, 1) := by decide +kernel
theorem dX11_lies_8 : decode cX11_lies 8 = .ok (.invokevirtual 103, 3) := by decide +kernel
theorem dX11_lies_11 : decode cX11_lies 11 = .ok (.ifCond .eq 7, 3) := by decide +kernel
theorem dX11_lies_14 : decode cX11_lies 14 = .ok (.iconst 2, 1) := by decide +kernel
theorem dX11_lies_15 : decode cX11_lies 15 = .ok (.goto 22, 3) := by decide +kernel
theorem dX11_lies_18 : decode cX11_lies 18 = .ok (.aload_n 0, 1) := by decide +kernel
theorem dX11_lies_19 : decode cX11_lies 19 = .ok (.iload_n 1, 1) := by decide +kernel
theorem dX11_lies_20 : decode cX11_lies 20 = .ok (.iload_n 2, 1) := by decide +kernel
theorem dX11_lies_21 : decode cX11_lies 21 = .ok (.iload_n 3, 1) := by decide +kernel
theorem dX11_lies_22 : decode cX11_lies 22 = .ok (.iload 4, 2) := by decide +kernel
theorem dX11_lies_24 : decode cX11_lies 24 = .ok (.iconst 0, 1) := by decide +kernel
theorem dX11_lies_25 : decode cX11_lies 25 = .ok (.iconst 1, 1) := by decide +kernel
theorem dX11_lies_26 : decode cX11_lies 26 = .ok (.invokevirtual 103, 3) := by decide +kernel
theorem dX11_lies_29 : decode cX11_lies 29 = .ok (.ifCond .eq 7, 3) := by decide +kernel
theorem dX11_lies_32 : decode cX11_lies 32 = .ok (.iconst 1, 1) := by decide +kernel
theorem dX11_lies_33 : decode cX11_lies 33 = .ok (.goto 4, 3) := by decide +kernel
theorem dX11_lies_36 : decode cX11_lies 36 = .ok (.iconst 0, 1) := by decide +kernel
theorem dX11_lies_37 : decode cX11_lies 37 = .ok (.ireturn, 1) := by decide +kernel
abbrev rmX11_lies : Room := { frames := 5, cells := 0, slots := 0, locals := 200 }
abbrev sX11_lies (E : EV) : List AV → AH → (Option AV → AH → Prop) → Prop := Spec E yX11_lies cX11_lies 5 (some .int) rmX11_lies
theorem mX11_lies : Mt yX11_lies cX11_lies 5 (some .int) 4 := ⟨k1220, k12, by decide +kernel⟩
theorem vX11_lies : MtV yX11_lies 11 := ⟨k1219, kp55, by decide, (RX11, TX11, 26), rfl, rfl⟩
def PX11_lies_0 (E : EV) (post : Option AV → AH → Prop) (h : AH) (l0 : Option Nat) (l1 : Int32) (l2 : Int32) (l3 : Int32) (l4 : Int32) : Prop :=
  CV (sX11_isAny E) l0 11 [aI l1, aI l2, aI l3, aI l4, aI (0 : Int32), aI (0 : Int32)] h (kI fun x1 h2 => (x1 = 0 → CV (sX11_isAny E) l0 11 [aI l1, aI l2, aI l3, aI l4, aI (0 : Int32), aI (1 : Int32)] h2 (kI fun x3 h4 => (x3 = 0 → post (some (aI (0 : Int32))) h4) ∧ (¬ x3 = 0 → post (some (aI (1 : Int32))) h4))) ∧ (¬ x1 = 0 → post (some (aI (2 : Int32))) h2))
theorem bX11_lies_0 {E : EV} {X : AX} {post : Option AV → AH → Prop} (C : Cb E X cX11_lies RX11 5 rmX11_lies) (D : Cr E X (some .int) rmX11_lies "lies" post) {h : AH} {l0 : Option Nat} {l1 : Int32} {l2 : Int32} {l3 : Int32} {l4 : Int32} (w : PX11_lies_0 E post h l0 l1 l2 l3 l4) : Go E X 5 0 0 0 [(0, aP l0), (1, aI l1), (2, aI l2), (3, aI l3), (4, aI l4)] [] h := by
  unfold PX11_lies_0 at w
  refine r_aload_n C dX11_lies_0 rfl 0 rfl ?_
  refine r_iload_n C dX11_lies_1 rfl 1 rfl ?_
  refine r_iload_n C dX11_lies_2 rfl 2 rfl ?_
  refine r_iload_n C dX11_lies_3 rfl 3 rfl ?_
  refine r_iload C dX11_lies_4 4 rfl ?_
  refine r_iconst (v := 0) C dX11_lies_6 rfl ?_
  refine r_iconst (v := 0) C dX11_lies_7 rfl ?_
  refine r_cvI (rm' := rmX11_isAny) C mX11_isAny vX11_isAny k1221 [aI l1, aI l2, aI l3, aI l4, aI (0 : Int32), aI (0 : Int32)] [] rfl rfl (Nat.le_of_ble_eq_true rfl) (by decide) ⟨Nat.zero_le _, Nat.zero_le _⟩ 0 0 rfl rfl dX11_lies_8 w (fun x1 h2 w => ?_)
  refine r_if_eq C dX11_lies_11 (tgt := 18) rfl (fun hc => ?_) (fun hc => ?_)
  · have w := w.1 hc
    refine r_aload_n C dX11_lies_18 rfl 0 rfl ?_
    refine r_iload_n C dX11_lies_19 rfl 1 rfl ?_
    refine r_iload_n C dX11_lies_20 rfl 2 rfl ?_
    refine r_iload_n C dX11_lies_21 rfl 3 rfl ?_
    refine r_iload C dX11_lies_22 4 rfl ?_
    refine r_iconst (v := 0) C dX11_lies_24 rfl ?_
    refine r_iconst (v := 1) C dX11_lies_25 rfl ?_
    refine r_cvI (rm' := rmX11_isAny) C mX11_isAny vX11_isAny k1221 [aI l1, aI l2, aI l3, aI l4, aI (0 : Int32), aI (1 : Int32)] [] rfl rfl (Nat.le_of_ble_eq_true rfl) (by decide) ⟨Nat.zero_le _, Nat.zero_le _⟩ 0 0 rfl rfl dX11_lies_26 w (fun x3 h4 w => ?_)
    refine r_if_eq C dX11_lies_29 (tgt := 36) rfl (fun hc => ?_) (fun hc => ?_)
    · have w := w.1 hc
      refine r_iconst (v := 0) C dX11_lies_36 rfl ?_
      exact r_iret C D rfl (Nat.zero_le _) (Nat.zero_le _) dX11_lies_37 w
    · have w := w.2 hc
      refine r_iconst (v := 1) C dX11_lies_32 rfl ?_
      refine r_goto C dX11_lies_33 (tgt := 37) rfl ?_
      exact r_iret C D rfl (Nat.zero_le _) (Nat.zero_le _) dX11_lies_37 w
  · have w := w.2 hc
    refine r_iconst (v := 2) C dX11_lies_14 rfl ?_
    refine r_goto C dX11_lies_15 (tgt := 37) rfl ?_
    exact r_iret C D rfl (Nat.zero_le _) (Nat.zero_le _) dX11_lies_37 w
theorem eX11_lies {E : EV} {post : Option AV → AH → Prop} {h : AH} {l0 : Option Nat} {l1 : Int32} {l2 : Int32} {l3 : Int32} {l4 : Int32} (w : PX11_lies_0 E post h l0 l1 l2 l3 l4) : sX11_lies E [aP l0, aI l1, aI l2, aI l3, aI l4] h post := Spec.of RX11 rfl rfl (Nat.le_of_ble_eq_true rfl) fun X C D => bX11_lies_0 C D w
theorem dX11_contact_0 : decode cX11_contact 0 = .ok (.aload_n 0, 1) := by decide +kernel
theorem dX11_contact_1 : decode cX11_contact 1 = .ok (.iload_n 1, 1) := by decide +kernel
theorem dX11_contact_2 : decode cX11_contact 2 = .ok (.iload_n 2, 1) := by decide +kernel
theorem dX11_contact_3 : decode cX11_contact 3 = .ok (.invokevirtual 233, 3) := by decide +kernel
theorem dX11_contact_6 : decode cX11_contact 6 = .ok (.ifCond .eq 12, 3) := by decide +kernel
theorem dX11_contact_9 : decode cX11_contact 9 = .ok (.iload_n 3, 1) := by decide +kernel
theorem dX11_contact_10 : decode cX11_contact 10 = .ok (.iload 4, 2) := by decide +kernel
theorem dX11_contact_12 : decode cX11_contact 12 = .ok (.invokestatic 236, 3) := by decide +kernel
theorem dX11_contact_15 : decode cX11_contact 15 = .ok (.ifCond .ne 6, 3) := by decide +kernel
theorem dX11_contact_18 : decode cX11_contact 18 = .ok (.ldc 145, 2) := by decide +kernel
theorem dX11_contact_20 : decode cX11_contact 20 = .ok (.ireturn, 1) := by decide +kernel
theorem dX11_contact_21 : decode cX11_contact 21 = .ok (.aload_n 0, 1) := by decide +kernel
theorem dX11_contact_22 : decode cX11_contact 22 = .ok (.iload_n 1, 1) := by decide +kernel
theorem dX11_contact_23 : decode cX11_contact 23 = .ok (.invokevirtual 195, 3) := by decide +kernel
theorem dX11_contact_26 : decode cX11_contact 26 = .ok (.ifCond .ne 11, 3) := by decide +kernel
theorem dX11_contact_29 : decode cX11_contact 29 = .ok (.aload_n 0, 1) := by decide +kernel
theorem dX11_contact_30 : decode cX11_contact 30 = .ok (.iload_n 2, 1) := by decide +kernel
theorem dX11_contact_31 : decode cX11_contact 31 = .ok (.invokevirtual 195, 3) := by decide +kernel
theorem dX11_contact_34 : decode cX11_contact 34 = .ok (.ifCond .eq 8, 3) := by decide +kernel
theorem dX11_contact_37 : decode cX11_contact 37 = .ok (.ldc 42, 2) := by decide +kernel
theorem dX11_contact_39 : decode cX11_contact 39 = .ok (.goto 18, 3) := by decide +kernel
theorem dX11_contact_42 : decode cX11_contact 42 = .ok (.aload_n 0, 1) := by decide +kernel
theorem dX11_contact_43 : decode cX11_contact 43 = .ok (.iload_n 1, 1) := by decide +kernel
theorem dX11_contact_44 : decode cX11_contact 44 = .ok (.invokestatic 50, 3) := by decide +kernel
theorem dX11_contact_47 : decode cX11_contact 47 = .ok (.iload_n 2, 1) := by decide +kernel
theorem dX11_contact_48 : decode cX11_contact 48 = .ok (.invokestatic 50, 3) := by decide +kernel
theorem dX11_contact_51 : decode cX11_contact 51 = .ok (.iload_n 3, 1) := by decide +kernel
theorem dX11_contact_52 : decode cX11_contact 52 = .ok (.iload 4, 2) := by decide +kernel
theorem dX11_contact_54 : decode cX11_contact 54 = .ok (.invokevirtual 239, 3) := by decide +kernel
theorem dX11_contact_57 : decode cX11_contact 57 = .ok (.ireturn, 1) := by decide +kernel
abbrev rmX11_contact : Room := { frames := 6, cells := 0, slots := 0, locals := 240 }
abbrev sX11_contact (E : EV) : List AV → AH → (Option AV → AH → Prop) → Prop := Spec E yX11_contact cX11_contact 5 (some .int) rmX11_contact
theorem mX11_contact : Mt yX11_contact cX11_contact 5 (some .int) 4 := ⟨k1209, k12, by decide +kernel⟩
theorem vX11_contact : MtV yX11_contact 11 := ⟨k1207, k1208, by decide, (RX11, TX11, 26), rfl, rfl⟩
def PX11_contact_0 (E : EV) (post : Option AV → AH → Prop) (h : AH) (l0 : Option Nat) (l1 : Int32) (l2 : Int32) (l3 : Int32) (l4 : Int32) : Prop :=
  CV (sX11_areSlots E) l0 11 [aI l1, aI l2] h (kI fun x1 h2 => (x1 = 0 → post (some (aI (-1000001 : Int32))) h2) ∧ (¬ x1 = 0 → CS (sX11_isPlace E) [aI l3, aI l4] h2 (kI fun x3 h4 => (¬ x3 = 0 → CV (sX11_isEmpty E) l0 11 [aI l1] h4 (kI fun x5 h6 => (¬ x5 = 0 → post (some (aI (-1000002 : Int32))) h6) ∧ (x5 = 0 → CV (sX11_isEmpty E) l0 11 [aI l2] h6 (kI fun x7 h8 => (x7 = 0 → CS (sX11_slotAt E) [aI l1] h8 (kI fun x9 h10 => CS (sX11_slotAt E) [aI l2] h10 (kI fun x11 h12 => CV (sX11_lies E) l0 11 [aI x9, aI x11, aI l3, aI l4] h12 (kI fun x13 h14 => post (some (aI x13)) h14)))) ∧ (¬ x7 = 0 → post (some (aI (-1000002 : Int32))) h8))))) ∧ (x3 = 0 → post (some (aI (-1000001 : Int32))) h4))))
theorem bX11_contact_0 {E : EV} {X : AX} {post : Option AV → AH → Prop} (C : Cb E X cX11_contact RX11 5 rmX11_contact) (D : Cr E X (some .int) rmX11_contact "contact" post) {h : AH} {l0 : Option Nat} {l1 : Int32} {l2 : Int32} {l3 : Int32} {l4 : Int32} (w : PX11_contact_0 E post h l0 l1 l2 l3 l4) : Go E X 5 0 0 0 [(0, aP l0), (1, aI l1), (2, aI l2), (3, aI l3), (4, aI l4)] [] h := by
  unfold PX11_contact_0 at w
  refine r_aload_n C dX11_contact_0 rfl 0 rfl ?_
  refine r_iload_n C dX11_contact_1 rfl 1 rfl ?_
  refine r_iload_n C dX11_contact_2 rfl 2 rfl ?_
  refine r_cvI (rm' := rmX11_areSlots) C mX11_areSlots vX11_areSlots k1210 [aI l1, aI l2] [] rfl rfl (Nat.le_of_ble_eq_true rfl) (by decide) ⟨Nat.zero_le _, Nat.zero_le _⟩ 0 0 rfl rfl dX11_contact_3 w (fun x1 h2 w => ?_)
  refine r_if_eq C dX11_contact_6 (tgt := 18) rfl (fun hc => ?_) (fun hc => ?_)
  · have w := w.1 hc
    refine r_ldc (v := -1000001) C dX11_contact_18 k1039 ?_
    exact r_iret C D rfl (Nat.zero_le _) (Nat.zero_le _) dX11_contact_20 w
  · have w := w.2 hc
    refine r_iload_n C dX11_contact_9 rfl 3 rfl ?_
    refine r_iload C dX11_contact_10 4 rfl ?_
    refine r_csI (rm' := rmX11_isPlace) C mX11_isPlace vX11_isPlace k1214 [aI l3, aI l4] [] rfl rfl (Nat.le_of_ble_eq_true rfl) (by decide) ⟨Nat.zero_le _, Nat.zero_le _⟩ 0 0 rfl rfl dX11_contact_12 w (fun x3 h4 w => ?_)
    refine r_if_ne C dX11_contact_15 (tgt := 21) rfl (fun hc => ?_) (fun hc => ?_)
    · have w := w.1 hc
      refine r_aload_n C dX11_contact_21 rfl 0 rfl ?_
      refine r_iload_n C dX11_contact_22 rfl 1 rfl ?_
      refine r_cvI (rm' := rmX11_isEmpty) C mX11_isEmpty vX11_isEmpty k1111 [aI l1] [] rfl rfl (Nat.le_of_ble_eq_true rfl) (by decide) ⟨Nat.zero_le _, Nat.zero_le _⟩ 0 0 rfl rfl dX11_contact_23 w (fun x5 h6 w => ?_)
      refine r_if_ne C dX11_contact_26 (tgt := 37) rfl (fun hc => ?_) (fun hc => ?_)
      · have w := w.1 hc
        refine r_ldc (v := -1000002) C dX11_contact_37 k1027 ?_
        refine r_goto C dX11_contact_39 (tgt := 57) rfl ?_
        exact r_iret C D rfl (Nat.zero_le _) (Nat.zero_le _) dX11_contact_57 w
      · have w := w.2 hc
        refine r_aload_n C dX11_contact_29 rfl 0 rfl ?_
        refine r_iload_n C dX11_contact_30 rfl 2 rfl ?_
        refine r_cvI (rm' := rmX11_isEmpty) C mX11_isEmpty vX11_isEmpty k1111 [aI l2] [] rfl rfl (Nat.le_of_ble_eq_true rfl) (by decide) ⟨Nat.zero_le _, Nat.zero_le _⟩ 0 0 rfl rfl dX11_contact_31 w (fun x7 h8 w => ?_)
        refine r_if_eq C dX11_contact_34 (tgt := 42) rfl (fun hc => ?_) (fun hc => ?_)
        · have w := w.1 hc
          refine r_aload_n C dX11_contact_42 rfl 0 rfl ?_
          refine r_iload_n C dX11_contact_43 rfl 1 rfl ?_
          refine r_csI (rm' := rmX11_slotAt) C mX11_slotAt vX11_slotAt k1100 [aI l1] [aP l0] rfl rfl (Nat.le_of_ble_eq_true rfl) (by decide) ⟨Nat.zero_le _, Nat.zero_le _⟩ 0 0 rfl rfl dX11_contact_44 w (fun x9 h10 w => ?_)
          refine r_iload_n C dX11_contact_47 rfl 2 rfl ?_
          refine r_csI (rm' := rmX11_slotAt) C mX11_slotAt vX11_slotAt k1100 [aI l2] [aI x9, aP l0] rfl rfl (Nat.le_of_ble_eq_true rfl) (by decide) ⟨Nat.zero_le _, Nat.zero_le _⟩ 0 0 rfl rfl dX11_contact_48 w (fun x11 h12 w => ?_)
          refine r_iload_n C dX11_contact_51 rfl 3 rfl ?_
          refine r_iload C dX11_contact_52 4 rfl ?_
          refine r_cvI (rm' := rmX11_lies) C mX11_lies vX11_lies k1217 [aI x9, aI x11, aI l3, aI l4] [] rfl rfl (Nat.le_of_ble_eq_true rfl) (by decide) ⟨Nat.zero_le _, Nat.zero_le _⟩ 0 0 rfl rfl dX11_contact_54 w (fun x13 h14 w => ?_)
          exact r_iret C D rfl (Nat.zero_le _) (Nat.zero_le _) dX11_contact_57 w
        · have w := w.2 hc
          refine r_ldc (v := -1000002) C dX11_contact_37 k1027 ?_
          refine r_goto C dX11_contact_39 (tgt := 57) rfl ?_
          exact r_iret C D rfl (Nat.zero_le _) (Nat.zero_le _) dX11_contact_57 w
    · have w := w.2 hc
      refine r_ldc (v := -1000001) C dX11_contact_18 k1039 ?_
      exact r_iret C D rfl (Nat.zero_le _) (Nat.zero_le _) dX11_contact_20 w
theorem eX11_contact {E : EV} {post : Option AV → AH → Prop} {h : AH} {l0 : Option Nat} {l1 : Int32} {l2 : Int32} {l3 : Int32} {l4 : Int32} (w : PX11_contact_0 E post h l0 l1 l2 l3 l4) : sX11_contact E [aP l0, aI l1, aI l2, aI l3, aI l4] h post := Spec.of RX11 rfl rfl (Nat.le_of_ble_eq_true rfl) fun X C D => bX11_contact_0 C D w
