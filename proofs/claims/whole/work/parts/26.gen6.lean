theorem dX11_takes_0 : decode cX11_takes 0 = .ok (.aload_n 0, 1) := by decide +kernel
theorem dX11_takes_1 : decode cX11_takes 1 = .ok (.invokevirtual 161, 3) := by decide +kernel
theorem dX11_takes_4 : decode cX11_takes 4 = .ok (.aload_n 0, 1) := by decide +kernel
theorem dX11_takes_5 : decode cX11_takes 5 = .ok (.aload_n 0, 1) := by decide +kernel
theorem dX11_takes_6 : decode cX11_takes 6 = .ok (.getfield 157, 3) := by decide +kernel
theorem dX11_takes_9 : decode cX11_takes 9 = .ok (.ifCond .ne 11, 3) := by decide +kernel
theorem dX11_takes_12 : decode cX11_takes 12 = .ok (.aload_n 0, 1) := by decide +kernel
theorem dX11_takes_13 : decode cX11_takes 13 = .ok (.invokevirtual 153, 3) := by decide +kernel
theorem dX11_takes_16 : decode cX11_takes 16 = .ok (.iload_n 1, 1) := by decide +kernel
theorem dX11_takes_17 : decode cX11_takes 17 = .ok (.if_icmp .eq 7, 3) := by decide +kernel
theorem dX11_takes_20 : decode cX11_takes 20 = .ok (.iconst 1, 1) := by decide +kernel
theorem dX11_takes_21 : decode cX11_takes 21 = .ok (.goto 4, 3) := by decide +kernel
theorem dX11_takes_24 : decode cX11_takes 24 = .ok (.iconst 0, 1) := by decide +kernel
theorem dX11_takes_25 : decode cX11_takes 25 = .ok (.putfield 157, 3) := by decide +kernel
theorem dX11_takes_28 : decode cX11_takes 28 = .ok (.aload_n 0, 1) := by decide +kernel
theorem dX11_takes_29 : decode cX11_takes 29 = .ok (.dup, 1) := by decide +kernel
theorem dX11_takes_30 : decode cX11_takes 30 = .ok (.getfield 150, 3) := by decide +kernel
theorem dX11_takes_33 : decode cX11_takes 33 = .ok (.aload_n 0, 1) := by decide +kernel
theorem dX11_takes_34 : decode cX11_takes 34 = .ok (.getfield 157, 3) := by decide +kernel
theorem dX11_takes_37 : decode cX11_takes 37 = .ok (.ifCond .eq 7, 3) := by decide +kernel
theorem dX11_takes_40 : decode cX11_takes 40 = .ok (.iconst 0, 1) := by decide +kernel
theorem dX11_takes_41 : decode cX11_takes 41 = .ok (.goto 4, 3) := by decide +kernel
theorem dX11_takes_44 : decode cX11_takes 44 = .ok (.iconst 1, 1) := by decide +kernel
theorem dX11_takes_45 : decode cX11_takes 45 = .ok (.iadd, 1) := by decide +kernel
theorem dX11_takes_46 : decode cX11_takes 46 = .ok (.putfield 150, 3) := by decide +kernel
theorem dX11_takes_49 : decode cX11_takes 49 = .ok (.return_, 1) := by decide +kernel
abbrev rmX11_takes : Room := { frames := 2, cells := 0, slots := 0, locals := 80 }
abbrev sX11_takes (E : EV) : List AV → AH → (Option AV → AH → Prop) → Prop := Spec E yX11_takes cX11_takes 2 none rmX11_takes
theorem mX11_takes : Mt yX11_takes cX11_takes 2 none 1 := ⟨k1095, k12, by decide +kernel⟩
theorem vX11_takes : MtV yX11_takes 11 := ⟨k1094, kp39, by decide, (RX11, TX11, 26), rfl, rfl⟩
def PX11_takes_45 (E : EV) (post : Option AV → AH → Prop) (h : AH) (s0 : Option Nat) (s1 : Int32) (s2 : Int32) : Prop :=
  wr h s0 11 13 (aI (s1 + s2)) fun h1 => post none h1
theorem bX11_takes_45 {E : EV} {X : AX} {post : Option AV → AH → Prop} (C : Cb E X cX11_takes RX11 2 rmX11_takes) (D : Cr E X none rmX11_takes "takes" post) {h : AH} {s0 : Option Nat} {s1 : Int32} {s2 : Int32} (w : PX11_takes_45 E post h s0 s1 s2) : Go E X 2 0 0 45 [] [aI s2, aI s1, aP s0] h := by
  unfold PX11_takes_45 at w
  refine r_iadd C dX11_takes_45 ?_
  refine r_put C fcX11 (f := 13) (by decide) rfl rfl rfl rfl k956 dX11_takes_46 (w.mono fun h1 w => ?_)
  exact r_vret C D rfl (Nat.zero_le _) (Nat.zero_le _) dX11_takes_49 w
def PX11_takes_25 (E : EV) (post : Option AV → AH → Prop) (h : AH) (l0 : Option Nat) (s0 : Option Nat) (s1 : Int32) : Prop :=
  (s1 = 0 ∨ s1 = 1) ∧ wr h s0 11 14 (aI s1) (fun h1 => rdI h1 l0 11 13 fun x2 => rdI h1 l0 11 14 fun x3 => (x3 = 0 → PX11_takes_45 E post h1 l0 x2 (1 : Int32)) ∧ (¬ x3 = 0 → PX11_takes_45 E post h1 l0 x2 (0 : Int32)))
theorem bX11_takes_25 {E : EV} {X : AX} {post : Option AV → AH → Prop} (C : Cb E X cX11_takes RX11 2 rmX11_takes) (D : Cr E X none rmX11_takes "takes" post) {h : AH} {l0 : Option Nat} {s0 : Option Nat} {s1 : Int32} (w : PX11_takes_25 E post h l0 s0 s1) : Go E X 2 0 0 25 [(0, aP l0)] [aI s1, aP s0] h := by
  unfold PX11_takes_25 at w
  have hz := w.1
  have w := w.2
  refine r_put C fcX11 (f := 14) (by decide) rfl rfl (nr_Z hz) (ft_Z hz) k957 dX11_takes_25 (w.mono fun h1 w => ?_)
  refine r_aload_n C dX11_takes_28 rfl 0 rfl ?_
  refine r_dup C dX11_takes_29 rfl ?_
  refine r_getI C fcX11 (f := 13) (by decide) rfl k956 dX11_takes_30 (w.mono fun x2 w => ?_)
  refine r_aload_n C dX11_takes_33 rfl 0 rfl ?_
  refine r_getI C fcX11 (f := 14) (by decide) rfl k957 dX11_takes_34 (w.mono fun x3 w => ?_)
  refine r_if_eq C dX11_takes_37 (tgt := 44) rfl (fun hc => ?_) (fun hc => ?_)
  · have w := w.1 hc
    refine r_iconst (v := 1) C dX11_takes_44 rfl ?_
    exact r_sub [] rfl (bX11_takes_45 C D w)
  · have w := w.2 hc
    refine r_iconst (v := 0) C dX11_takes_40 rfl ?_
    refine r_goto C dX11_takes_41 (tgt := 45) rfl ?_
    exact r_sub [] rfl (bX11_takes_45 C D w)
def PX11_takes_20 (E : EV) (post : Option AV → AH → Prop) (h : AH) (l0 : Option Nat) (s0 : Option Nat) : Prop :=
  PX11_takes_25 E post h l0 s0 (1 : Int32)
theorem bX11_takes_20 {E : EV} {X : AX} {post : Option AV → AH → Prop} (C : Cb E X cX11_takes RX11 2 rmX11_takes) (D : Cr E X none rmX11_takes "takes" post) {h : AH} {l0 : Option Nat} {s0 : Option Nat} (w : PX11_takes_20 E post h l0 s0) : Go E X 2 0 0 20 [(0, aP l0)] [aP s0] h := by
  unfold PX11_takes_20 at w
  refine r_iconst (v := 1) C dX11_takes_20 rfl ?_
  refine r_goto C dX11_takes_21 (tgt := 25) rfl ?_
  exact (bX11_takes_25 C D w)
def PX11_takes_0 (E : EV) (post : Option AV → AH → Prop) (h : AH) (l0 : Option Nat) (l1 : Int32) : Prop :=
  CV (sX11_skip E) l0 11 [] h (kV fun h2 => rdI h2 l0 11 14 fun x3 => (¬ x3 = 0 → PX11_takes_20 E post h2 l0 l0) ∧ (x3 = 0 → CV (sX11_here E) l0 11 [] h2 (kI fun x4 h5 => (x4 = l1 → PX11_takes_25 E post h5 l0 l0 (0 : Int32)) ∧ (¬ x4 = l1 → PX11_takes_20 E post h5 l0 l0))))
theorem bX11_takes_0 {E : EV} {X : AX} {post : Option AV → AH → Prop} (C : Cb E X cX11_takes RX11 2 rmX11_takes) (D : Cr E X none rmX11_takes "takes" post) {h : AH} {l0 : Option Nat} {l1 : Int32} (w : PX11_takes_0 E post h l0 l1) : Go E X 2 0 0 0 [(0, aP l0), (1, aI l1)] [] h := by
  unfold PX11_takes_0 at w
  refine r_aload_n C dX11_takes_0 rfl 0 rfl ?_
  refine r_cvV (rm' := rmX11_skip) C mX11_skip vX11_skip k1056 [] [] rfl rfl (Nat.le_of_ble_eq_true rfl) (by decide) ⟨Nat.zero_le _, Nat.zero_le _⟩ 0 0 rfl rfl dX11_takes_1 w (fun h2 w => ?_)
  refine r_aload_n C dX11_takes_4 rfl 0 rfl ?_
  refine r_aload_n C dX11_takes_5 rfl 0 rfl ?_
  refine r_getI C fcX11 (f := 14) (by decide) rfl k957 dX11_takes_6 (w.mono fun x3 w => ?_)
  refine r_if_ne C dX11_takes_9 (tgt := 20) rfl (fun hc => ?_) (fun hc => ?_)
  · have w := w.1 hc
    exact r_sub [0] rfl (bX11_takes_20 C D w)
  · have w := w.2 hc
    refine r_aload_n C dX11_takes_12 rfl 0 rfl ?_
    refine r_cvI (rm' := rmX11_here) C mX11_here vX11_here k1060 [] [aP l0] rfl rfl (Nat.le_of_ble_eq_true rfl) (by decide) ⟨Nat.zero_le _, Nat.zero_le _⟩ 0 0 rfl rfl dX11_takes_13 w (fun x4 h5 w => ?_)
    refine r_iload_n C dX11_takes_16 rfl 1 rfl ?_
    refine r_icmp_eq C dX11_takes_17 (tgt := 24) rfl (fun hc => ?_) (fun hc => ?_)
    · have w := w.1 hc
      refine r_iconst (v := 0) C dX11_takes_24 rfl ?_
      exact r_sub [0] rfl (bX11_takes_25 C D w)
    · have w := w.2 hc
      exact r_sub [0] rfl (bX11_takes_20 C D w)
theorem eX11_takes {E : EV} {post : Option AV → AH → Prop} {h : AH} {l0 : Option Nat} {l1 : Int32} (w : PX11_takes_0 E post h l0 l1) : sX11_takes E [aP l0, aI l1] h post := Spec.of RX11 rfl rfl (Nat.le_of_ble_eq_true rfl) fun X C D => bX11_takes_0 C D w
theorem dX11_readsLayout_0 : decode cX11_readsLayout 0 = .ok (.aload_n 0, 1) := by decide +kernel
theorem dX11_readsLayout_1 : decode cX11_readsLayout 1 = .ok (.iconst 0, 1) := by decide +kernel
theorem dX11_readsLayout_2 : decode cX11_readsLayout 2 = .ok (.putfield 150, 3) := by decide +kernel
theorem dX11_readsLayout_5 : decode cX11_readsLayout 5 = .ok (.aload_n 0, 1) := by decide +kernel
theorem dX11_readsLayout_6 : decode cX11_readsLayout 6 = .ok (.iconst 0, 1) := by decide +kernel
theorem dX11_readsLayout_7 : decode cX11_readsLayout 7 = .ok (.putfield 286, 3) := by decide +kernel
theorem dX11_readsLayout_10 : decode cX11_readsLayout 10 = .ok (.aload_n 0, 1) := by decide +kernel
theorem dX11_readsLayout_11 : decode cX11_readsLayout 11 = .ok (.iconst 0, 1) := by decide +kernel
theorem dX11_readsLayout_12 : decode cX11_readsLayout 12 = .ok (.putfield 157, 3) := by decide +kernel
theorem dX11_readsLayout_15 : decode cX11_readsLayout 15 = .ok (.aload_n 0, 1) := by decide +kernel
theorem dX11_readsLayout_16 : decode cX11_readsLayout 16 = .ok (.invokevirtual 161, 3) := by decide +kernel
theorem dX11_readsLayout_19 : decode cX11_readsLayout 19 = .ok (.aload_n 0, 1) := by decide +kernel
theorem dX11_readsLayout_20 : decode cX11_readsLayout 20 = .ok (.getfield 157, 3) := by decide +kernel
theorem dX11_readsLayout_23 : decode cX11_readsLayout 23 = .ok (.ifCond .ne 151, 3) := by decide +kernel
theorem dX11_readsLayout_26 : decode cX11_readsLayout 26 = .ok (.aload_n 0, 1) := by decide +kernel
theorem dX11_readsLayout_27 : decode cX11_readsLayout 27 = .ok (.getfield 150, 3) := by decide +kernel
theorem dX11_readsLayout_30 : decode cX11_readsLayout 30 = .ok (.aload_n 0, 1) := by decide +kernel
theorem dX11_readsLayout_31 : decode cX11_readsLayout 31 = .ok (.getfield 146, 3) := by decide +kernel
theorem dX11_readsLayout_34 : decode cX11_readsLayout 34 = .ok (.if_icmp .ge 140, 3) := by decide +kernel
theorem dX11_readsLayout_37 : decode cX11_readsLayout 37 = .ok (.aload_n 0, 1) := by decide +kernel
theorem dX11_readsLayout_38 : decode cX11_readsLayout 38 = .ok (.invokevirtual 153, 3) := by decide +kernel
theorem dX11_readsLayout_41 : decode cX11_readsLayout 41 = .ok (.bipush 48, 2) := by decide +kernel
theorem dX11_readsLayout_43 : decode cX11_readsLayout 43 = .ok (.isub, 1) := by decide +kernel
theorem dX11_readsLayout_44 : decode cX11_readsLayout 44 = .ok (.istore_n 1, 1) := by decide +kernel
theorem dX11_readsLayout_45 : decode cX11_readsLayout 45 = .ok (.aload_n 0, 1) := by decide +kernel
theorem dX11_readsLayout_46 : decode cX11_readsLayout 46 = .ok (.iload_n 1, 1) := by decide +kernel
theorem dX11_readsLayout_47 : decode cX11_readsLayout 47 = .ok (.invokestatic 182, 3) := by decide +kernel
theorem dX11_readsLayout_50 : decode cX11_readsLayout 50 = .ok (.ifCond .ne 7, 3) := by decide +kernel
theorem dX11_readsLayout_53 : decode cX11_readsLayout 53 = .ok (.iconst 1, 1) := by decide +kernel
theorem dX11_readsLayout_54 : decode cX11_readsLayout 54 = .ok (.goto 4, 3) := by decide +kernel
theorem dX11_readsLayout_57 : decode cX11_readsLayout 57 = .ok (.iconst 0, 1) := by decide +kernel
theorem dX11_readsLayout_58 : decode cX11_readsLayout 58 = .ok (.putfield 157, 3) := by decide +kernel
theorem dX11_readsLayout_61 : decode cX11_readsLayout 61 = .ok (.aload_n 0, 1) := by decide +kernel
theorem dX11_readsLayout_62 : decode cX11_readsLayout 62 = .ok (.dup, 1) := by decide +kernel
theorem dX11_readsLayout_63 : decode cX11_readsLayout 63 = .ok (.getfield 150, 3) := by decide +kernel
theorem dX11_readsLayout_66 : decode cX11_readsLayout 66 = .ok (.aload_n 0, 1) := by decide +kernel
theorem dX11_readsLayout_67 : decode cX11_readsLayout 67 = .ok (.getfield 157, 3) := by decide +kernel
theorem dX11_readsLayout_70 : decode cX11_readsLayout 70 = .ok (.ifCond .eq 7, 3) := by decide +kernel
theorem dX11_readsLayout_73 : decode cX11_readsLayout 73 = .ok (.iconst 0, 1) := by decide +kernel
theorem dX11_readsLayout_74 : decode cX11_readsLayout 74 = .ok (.goto 4, 3) := by decide +kernel
theorem dX11_readsLayout_77 : decode cX11_readsLayout 77 = .ok (.iconst 1, 1) := by decide +kernel
theorem dX11_readsLayout_78 : decode cX11_readsLayout 78 = .ok (.iadd, 1) := by decide +kernel
theorem dX11_readsLayout_79 : decode cX11_readsLayout 79 = .ok (.putfield 150, 3) := by decide +kernel
theorem dX11_readsLayout_82 : decode cX11_readsLayout 82 = .ok (.aload_n 0, 1) := by decide +kernel
theorem dX11_readsLayout_83 : decode cX11_readsLayout 83 = .ok (.bipush 64, 2) := by decide +kernel
theorem dX11_readsLayout_85 : decode cX11_readsLayout 85 = .ok (.invokevirtual 175, 3) := by decide +kernel
theorem dX11_readsLayout_88 : decode cX11_readsLayout 88 = .ok (.aload_n 0, 1) := by decide +kernel
theorem dX11_readsLayout_89 : decode cX11_readsLayout 89 = .ok (.invokevirtual 289, 3) := by decide +kernel
theorem dX11_readsLayout_92 : decode cX11_readsLayout 92 = .ok (.istore_n 2, 1) := by decide +kernel
theorem dX11_readsLayout_93 : decode cX11_readsLayout 93 = .ok (.aload_n 0, 1) := by decide +kernel
theorem dX11_readsLayout_94 : decode cX11_readsLayout 94 = .ok (.bipush 44, 2) := by decide +kernel
theorem dX11_readsLayout_96 : decode cX11_readsLayout 96 = .ok (.invokevirtual 175, 3) := by decide +kernel
theorem dX11_readsLayout_99 : decode cX11_readsLayout 99 = .ok (.aload_n 0, 1) := by decide +kernel
theorem dX11_readsLayout_100 : decode cX11_readsLayout 100 = .ok (.invokevirtual 289, 3) := by decide +kernel
theorem dX11_readsLayout_103 : decode cX11_readsLayout 103 = .ok (.istore_n 3, 1) := by decide +kernel
theorem dX11_readsLayout_104 : decode cX11_readsLayout 104 = .ok (.aload_n 0, 1) := by decide +kernel
theorem dX11_readsLayout_105 : decode cX11_readsLayout 105 = .ok (.bipush 59, 2) := by decide +kernel
theorem dX11_readsLayout_107 : decode cX11_readsLayout 107 = .ok (.invokevirtual 175, 3) := by decide +kernel
theorem dX11_readsLayout_110 : decode cX11_readsLayout 110 = .ok (.aload_n 0, 1) := by decide +kernel
theorem dX11_readsLayout_111 : decode cX11_readsLayout 111 = .ok (.getfield 157, 3) := by decide +kernel
theorem dX11_readsLayout_114 : decode cX11_readsLayout 114 = .ok (.ifCond .ne 57, 3) := by decide +kernel
theorem dX11_readsLayout_117 : decode cX11_readsLayout 117 = .ok (.aload_n 0, 1) := by decide +kernel
theorem dX11_readsLayout_118 : decode cX11_readsLayout 118 = .ok (.getfield 32, 3) := by decide +kernel
theorem dX11_readsLayout_121 : decode cX11_readsLayout 121 = .ok (.iconst 3, 1) := by decide +kernel
theorem dX11_readsLayout_122 : decode cX11_readsLayout 122 = .ok (.aload_n 0, 1) := by decide +kernel
theorem dX11_readsLayout_123 : decode cX11_readsLayout 123 = .ok (.getfield 286, 3) := by decide +kernel
theorem dX11_readsLayout_126 : decode cX11_readsLayout 126 = .ok (.imul, 1) := by decide +kernel
theorem dX11_readsLayout_127 : decode cX11_readsLayout 127 = .ok (.iload_n 1, 1) := by decide +kernel
theorem dX11_readsLayout_128 : decode cX11_readsLayout 128 = .ok (.iastore, 1) := by decide +kernel
theorem dX11_readsLayout_129 : decode cX11_readsLayout 129 = .ok (.aload_n 0, 1) := by decide +kernel
theorem dX11_readsLayout_130 : decode cX11_readsLayout 130 = .ok (.getfield 32, 3) := by decide +kernel
theorem dX11_readsLayout_133 : decode cX11_readsLayout 133 = .ok (.iconst 3, 1) := by decide +kernel
theorem dX11_readsLayout_134 : decode cX11_readsLayout 134 = .ok (.aload_n 0, 1) := by decide +kernel
theorem dX11_readsLayout_135 : decode cX11_readsLayout 135 = .ok (.getfield 286, 3) := by decide +kernel
theorem dX11_readsLayout_138 : decode cX11_readsLayout 138 = .ok (.imul, 1) := by decide +kernel
theorem dX11_readsLayout_139 : decode cX11_readsLayout 139 = .ok (.iconst 1, 1) := by decide +kernel
theorem dX11_readsLayout_140 : decode cX11_readsLayout 140 = .ok (.iadd, 1) := by decide +kernel
theorem dX11_readsLayout_141 : decode cX11_readsLayout 141 = .ok (.iload_n 2, 1) := by decide +kernel
theorem dX11_readsLayout_142 : decode cX11_readsLayout 142 = .ok (.iastore, 1) := by decide +kernel
theorem dX11_readsLayout_143 : decode cX11_readsLayout 143 = .ok (.aload_n 0, 1) := by decide +kernel
theorem dX11_readsLayout_144 : decode cX11_readsLayout 144 = .ok (.getfield 32, 3) := by decide +kernel
theorem dX11_readsLayout_147 : decode cX11_readsLayout 147 = .ok (.iconst 3, 1) := by decide +kernel
theorem dX11_readsLayout_148 : decode cX11_readsLayout 148 = .ok (.aload_n 0, 1) := by decide +kernel
theorem dX11_readsLayout_149 : decode cX11_readsLayout 149 = .ok (.getfield 286, 3) := by decide +kernel
theorem dX11_readsLayout_152 : decode cX11_readsLayout 152 = .ok (.imul, 1) := by decide +kernel
theorem dX11_readsLayout_153 : decode cX11_readsLayout 153 = .ok (.iconst 2, 1) := by decide +kernel
theorem dX11_readsLayout_154 : decode cX11_readsLayout 154 = .ok (.iadd, 1) := by decide +kernel
theorem dX11_readsLayout_155 : decode cX11_readsLayout 155 = .ok (.iload_n 3, 1) := by decide +kernel
theorem dX11_readsLayout_156 : decode cX11_readsLayout 156 = .ok (.iastore, 1) := by decide +kernel
theorem dX11_readsLayout_157 : decode cX11_readsLayout 157 = .ok (.aload_n 0, 1) := by decide +kernel
theorem dX11_readsLayout_158 : decode cX11_readsLayout 158 = .ok (.dup, 1) := by decide +kernel
theorem dX11_readsLayout_159 : decode cX11_readsLayout 159 = .ok (.getfield 286, 3) := by decide +kernel
theorem dX11_readsLayout_162 : decode cX11_readsLayout 162 = .ok (.iconst 1, 1) := by decide +kernel
theorem dX11_readsLayout_163 : decode cX11_readsLayout 163 = .ok (.iadd, 1) := by decide +kernel
theorem dX11_readsLayout_164 : decode cX11_readsLayout 164 = .ok (.putfield 286, 3) := by decide +kernel
theorem dX11_readsLayout_167 : decode cX11_readsLayout 167 = .ok (.aload_n 0, 1) := by decide +kernel
theorem dX11_readsLayout_168 : decode cX11_readsLayout 168 = .ok (.invokevirtual 161, 3) := by decide +kernel
theorem dX11_readsLayout_171 : decode cX11_readsLayout 171 = .ok (.goto (-152), 3) := by decide +kernel
theorem dX11_readsLayout_174 : decode cX11_readsLayout 174 = .ok (.aload_n 0, 1) := by decide +kernel
theorem dX11_readsLayout_175 : decode cX11_readsLayout 175 = .ok (.getfield 157, 3) := by decide +kernel
theorem dX11_readsLayout_178 : decode cX11_readsLayout 178 = .ok (.ifCond .ne 7, 3) := by decide +kernel
theorem dX11_readsLayout_181 : decode cX11_readsLayout 181 = .ok (.iconst 1, 1) := by decide +kernel
theorem dX11_readsLayout_182 : decode cX11_readsLayout 182 = .ok (.goto 4, 3) := by decide +kernel
theorem dX11_readsLayout_185 : decode cX11_readsLayout 185 = .ok (.iconst 0, 1) := by decide +kernel
theorem dX11_readsLayout_186 : decode cX11_readsLayout 186 = .ok (.ireturn, 1) := by decide +kernel
abbrev rmX11_readsLayout : Room := { frames := 3, cells := 0, slots := 0, locals := 120 }
abbrev sX11_readsLayout (E : EV) : List AV → AH → (Option AV → AH → Prop) → Prop := Spec E yX11_readsLayout cX11_readsLayout 4 (some .boolean) rmX11_readsLayout
theorem mX11_readsLayout : Mt yX11_readsLayout cX11_readsLayout 4 (some .boolean) 0 := ⟨k1336, k12, by decide +kernel⟩
theorem vX11_readsLayout : MtV yX11_readsLayout 11 := ⟨k1335, kp73, by decide, (RX11, TX11, 26), rfl, rfl⟩
def PX11_readsLayout_174 (E : EV) (post : Option AV → AH → Prop) (h : AH) (l0 : Option Nat) : Prop :=
  rdI h l0 11 14 fun x1 => (¬ x1 = 0 → post (some (aI (0 : Int32))) h) ∧ (x1 = 0 → post (some (aI (1 : Int32))) h)
theorem bX11_readsLayout_174 {E : EV} {X : AX} {post : Option AV → AH → Prop} (C : Cb E X cX11_readsLayout RX11 4 rmX11_readsLayout) (D : Cr E X (some .boolean) rmX11_readsLayout "readsLayout" post) {h : AH} {l0 : Option Nat} (w : PX11_readsLayout_174 E post h l0) : Go E X 4 0 0 174 [(0, aP l0)] [] h := by
  unfold PX11_readsLayout_174 at w
  refine r_aload_n C dX11_readsLayout_174 rfl 0 rfl ?_
  refine r_getI C fcX11 (f := 14) (by decide) rfl k957 dX11_readsLayout_175 (w.mono fun x1 w => ?_)
  refine r_if_ne C dX11_readsLayout_178 (tgt := 185) rfl (fun hc => ?_) (fun hc => ?_)
  · have w := w.1 hc
    refine r_iconst (v := 0) C dX11_readsLayout_185 rfl ?_
    exact r_zret C D rfl (Or.inl rfl) (Nat.zero_le _) (Nat.zero_le _) dX11_readsLayout_186 w
  · have w := w.2 hc
    refine r_iconst (v := 1) C dX11_readsLayout_181 rfl ?_
    refine r_goto C dX11_readsLayout_182 (tgt := 186) rfl ?_
    exact r_zret C D rfl (Or.inr rfl) (Nat.zero_le _) (Nat.zero_le _) dX11_readsLayout_186 w
def PX11_readsLayout_78 (E : EV) (post : Option AV → AH → Prop) (J19 : AH → Option Nat → Prop) (h : AH) (l0 : Option Nat) (l1 : Int32) (s0 : Option Nat) (s1 : Int32) (s2 : Int32) : Prop :=
  wr h s0 11 13 (aI (s1 + s2)) fun h1 => CV (sX11_takes E) l0 11 [aI (64 : Int32)] h1 (kV fun h3 => CV (sX11_coordinate E) l0 11 [] h3 (kI fun x4 h5 => CV (sX11_takes E) l0 11 [aI (44 : Int32)] h5 (kV fun h8 => CV (sX11_coordinate E) l0 11 [] h8 (kI fun x9 h10 => CV (sX11_takes E) l0 11 [aI (59 : Int32)] h10 (kV fun h13 => rdI h13 l0 11 14 fun x14 => (¬ x14 = 0 → J19 h13 l0) ∧ (x14 = 0 → rdP h13 l0 11 23 fun x15 => rdI h13 l0 11 24 fun x16 => astI h13 x15 0 ((3 : Int32) * x16) l1 fun h17 => rdP h17 l0 11 23 fun x18 => rdI h17 l0 11 24 fun x19 => astI h17 x18 0 (((3 : Int32) * x19) + (1 : Int32)) x4 fun h20 => rdP h20 l0 11 23 fun x21 => rdI h20 l0 11 24 fun x22 => astI h20 x21 0 (((3 : Int32) * x22) + (2 : Int32)) x9 fun h23 => rdI h23 l0 11 24 fun x24 => wr h23 l0 11 24 (aI (x24 + (1 : Int32))) fun h25 => CV (sX11_skip E) l0 11 [] h25 (kV fun h27 => J19 h27 l0)))))))
theorem bX11_readsLayout_78 {E : EV} {X : AX} {post : Option AV → AH → Prop} (C : Cb E X cX11_readsLayout RX11 4 rmX11_readsLayout) (D : Cr E X (some .boolean) rmX11_readsLayout "readsLayout" post) {J19 : AH → Option Nat → Prop} (g19 : ∀ (h : AH) (l0 : Option Nat), J19 h l0 → Go E X 4 0 0 19 [(0, aP l0)] [] h) {h : AH} {l0 : Option Nat} {l1 : Int32} {s0 : Option Nat} {s1 : Int32} {s2 : Int32} (w : PX11_readsLayout_78 E post J19 h l0 l1 s0 s1 s2) : Go E X 4 0 0 78 [(0, aP l0), (1, aI l1)] [aI s2, aI s1, aP s0] h := by
  unfold PX11_readsLayout_78 at w
  refine r_iadd C dX11_readsLayout_78 ?_
  refine r_put C fcX11 (f := 13) (by decide) rfl rfl rfl rfl k956 dX11_readsLayout_79 (w.mono fun h1 w => ?_)
  refine r_aload_n C dX11_readsLayout_82 rfl 0 rfl ?_
  refine r_bipush (v := 64) C dX11_readsLayout_83 rfl ?_
  refine r_cvV (rm' := rmX11_takes) C mX11_takes vX11_takes k1092 [aI (64 : Int32)] [] rfl rfl (Nat.le_of_ble_eq_true rfl) (by decide) ⟨Nat.zero_le _, Nat.zero_le _⟩ 0 0 rfl rfl dX11_readsLayout_85 w (fun h3 w => ?_)
  refine r_aload_n C dX11_readsLayout_88 rfl 0 rfl ?_
  refine r_cvI (rm' := rmX11_coordinate) C mX11_coordinate vX11_coordinate k1337 [] [] rfl rfl (Nat.le_of_ble_eq_true rfl) (by decide) ⟨Nat.zero_le _, Nat.zero_le _⟩ 0 0 rfl rfl dX11_readsLayout_89 w (fun x4 h5 w => ?_)
  refine r_istore_n C dX11_readsLayout_92 rfl (by decide) rfl ?_
  refine r_aload_n C dX11_readsLayout_93 rfl 1 rfl ?_
  refine r_bipush (v := 44) C dX11_readsLayout_94 rfl ?_
  refine r_cvV (rm' := rmX11_takes) C mX11_takes vX11_takes k1092 [aI (44 : Int32)] [] rfl rfl (Nat.le_of_ble_eq_true rfl) (by decide) ⟨Nat.zero_le _, Nat.zero_le _⟩ 0 0 rfl rfl dX11_readsLayout_96 w (fun h8 w => ?_)
  refine r_aload_n C dX11_readsLayout_99 rfl 1 rfl ?_
  refine r_cvI (rm' := rmX11_coordinate) C mX11_coordinate vX11_coordinate k1337 [] [] rfl rfl (Nat.le_of_ble_eq_true rfl) (by decide) ⟨Nat.zero_le _, Nat.zero_le _⟩ 0 0 rfl rfl dX11_readsLayout_100 w (fun x9 h10 w => ?_)
  refine r_istore_n C dX11_readsLayout_103 rfl (by decide) rfl ?_
  refine r_aload_n C dX11_readsLayout_104 rfl 2 rfl ?_
  refine r_bipush (v := 59) C dX11_readsLayout_105 rfl ?_
  refine r_cvV (rm' := rmX11_takes) C mX11_takes vX11_takes k1092 [aI (59 : Int32)] [] rfl rfl (Nat.le_of_ble_eq_true rfl) (by decide) ⟨Nat.zero_le _, Nat.zero_le _⟩ 0 0 rfl rfl dX11_readsLayout_107 w (fun h13 w => ?_)
  refine r_aload_n C dX11_readsLayout_110 rfl 2 rfl ?_
  refine r_getI C fcX11 (f := 14) (by decide) rfl k957 dX11_readsLayout_111 (w.mono fun x14 w => ?_)
  refine r_if_ne C dX11_readsLayout_114 (tgt := 171) rfl (fun hc => ?_) (fun hc => ?_)
  · have w := w.1 hc
    refine r_goto C dX11_readsLayout_171 (tgt := 19) rfl ?_
    exact r_sub [2] rfl (g19 h13 l0 w)
  · have w := w.2 hc
    refine r_aload_n C dX11_readsLayout_117 rfl 2 rfl ?_
    refine r_getP C fcX11 (f := 23) (by decide) rfl k966 dX11_readsLayout_118 (w.mono fun x15 w => ?_)
    refine r_iconst (v := 3) C dX11_readsLayout_121 rfl ?_
    refine r_aload_n C dX11_readsLayout_122 rfl 2 rfl ?_
    refine r_getI C fcX11 (f := 24) (by decide) rfl k967 dX11_readsLayout_123 (w.mono fun x16 w => ?_)
    refine r_imul C dX11_readsLayout_126 ?_
    refine r_iload_n C dX11_readsLayout_127 rfl 3 rfl ?_
    refine r_iast C dX11_readsLayout_128 (w.mono fun h17 w => ?_)
    refine r_aload_n C dX11_readsLayout_129 rfl 2 rfl ?_
    refine r_getP C fcX11 (f := 23) (by decide) rfl k966 dX11_readsLayout_130 (w.mono fun x18 w => ?_)
    refine r_iconst (v := 3) C dX11_readsLayout_133 rfl ?_
    refine r_aload_n C dX11_readsLayout_134 rfl 2 rfl ?_
    refine r_getI C fcX11 (f := 24) (by decide) rfl k967 dX11_readsLayout_135 (w.mono fun x19 w => ?_)
    refine r_imul C dX11_readsLayout_138 ?_
    refine r_iconst (v := 1) C dX11_readsLayout_139 rfl ?_
    refine r_iadd C dX11_readsLayout_140 ?_
    refine r_iload_n C dX11_readsLayout_141 rfl 1 rfl ?_
    refine r_iast C dX11_readsLayout_142 (w.mono fun h20 w => ?_)
    refine r_aload_n C dX11_readsLayout_143 rfl 2 rfl ?_
    refine r_getP C fcX11 (f := 23) (by decide) rfl k966 dX11_readsLayout_144 (w.mono fun x21 w => ?_)
    refine r_iconst (v := 3) C dX11_readsLayout_147 rfl ?_
    refine r_aload_n C dX11_readsLayout_148 rfl 2 rfl ?_
    refine r_getI C fcX11 (f := 24) (by decide) rfl k967 dX11_readsLayout_149 (w.mono fun x22 w => ?_)
    refine r_imul C dX11_readsLayout_152 ?_
    refine r_iconst (v := 2) C dX11_readsLayout_153 rfl ?_
    refine r_iadd C dX11_readsLayout_154 ?_
    refine r_iload_n C dX11_readsLayout_155 rfl 0 rfl ?_
    refine r_iast C dX11_readsLayout_156 (w.mono fun h23 w => ?_)
    refine r_aload_n C dX11_readsLayout_157 rfl 2 rfl ?_
    refine r_dup C dX11_readsLayout_158 rfl ?_
    refine r_getI C fcX11 (f := 24) (by decide) rfl k967 dX11_readsLayout_159 (w.mono fun x24 w => ?_)
    refine r_iconst (v := 1) C dX11_readsLayout_162 rfl ?_
    refine r_iadd C dX11_readsLayout_163 ?_
    refine r_put C fcX11 (f := 24) (by decide) rfl rfl rfl rfl k967 dX11_readsLayout_164 (w.mono fun h25 w => ?_)
    refine r_aload_n C dX11_readsLayout_167 rfl 2 rfl ?_
    refine r_cvV (rm' := rmX11_skip) C mX11_skip vX11_skip k1056 [] [] rfl rfl (Nat.le_of_ble_eq_true rfl) (by decide) ⟨Nat.zero_le _, Nat.zero_le _⟩ 0 0 rfl rfl dX11_readsLayout_168 w (fun h27 w => ?_)
    refine r_goto C dX11_readsLayout_171 (tgt := 19) rfl ?_
    exact r_sub [2] rfl (g19 h27 l0 w)
def PX11_readsLayout_58 (E : EV) (post : Option AV → AH → Prop) (J19 : AH → Option Nat → Prop) (h : AH) (l0 : Option Nat) (l1 : Int32) (s0 : Option Nat) (s1 : Int32) : Prop :=
  (s1 = 0 ∨ s1 = 1) ∧ wr h s0 11 14 (aI s1) (fun h1 => rdI h1 l0 11 13 fun x2 => rdI h1 l0 11 14 fun x3 => (x3 = 0 → PX11_readsLayout_78 E post J19 h1 l0 l1 l0 x2 (1 : Int32)) ∧ (¬ x3 = 0 → PX11_readsLayout_78 E post J19 h1 l0 l1 l0 x2 (0 : Int32)))
theorem bX11_readsLayout_58 {E : EV} {X : AX} {post : Option AV → AH → Prop} (C : Cb E X cX11_readsLayout RX11 4 rmX11_readsLayout) (D : Cr E X (some .boolean) rmX11_readsLayout "readsLayout" post) {J19 : AH → Option Nat → Prop} (g19 : ∀ (h : AH) (l0 : Option Nat), J19 h l0 → Go E X 4 0 0 19 [(0, aP l0)] [] h) {h : AH} {l0 : Option Nat} {l1 : Int32} {s0 : Option Nat} {s1 : Int32} (w : PX11_readsLayout_58 E post J19 h l0 l1 s0 s1) : Go E X 4 0 0 58 [(0, aP l0), (1, aI l1)] [aI s1, aP s0] h := by
  unfold PX11_readsLayout_58 at w
  have hz := w.1
  have w := w.2
  refine r_put C fcX11 (f := 14) (by decide) rfl rfl (nr_Z hz) (ft_Z hz) k957 dX11_readsLayout_58 (w.mono fun h1 w => ?_)
  refine r_aload_n C dX11_readsLayout_61 rfl 0 rfl ?_
  refine r_dup C dX11_readsLayout_62 rfl ?_
  refine r_getI C fcX11 (f := 13) (by decide) rfl k956 dX11_readsLayout_63 (w.mono fun x2 w => ?_)
  refine r_aload_n C dX11_readsLayout_66 rfl 0 rfl ?_
  refine r_getI C fcX11 (f := 14) (by decide) rfl k957 dX11_readsLayout_67 (w.mono fun x3 w => ?_)
  refine r_if_eq C dX11_readsLayout_70 (tgt := 77) rfl (fun hc => ?_) (fun hc => ?_)
  · have w := w.1 hc
    refine r_iconst (v := 1) C dX11_readsLayout_77 rfl ?_
    exact (bX11_readsLayout_78 C D g19 w)
  · have w := w.2 hc
    refine r_iconst (v := 0) C dX11_readsLayout_73 rfl ?_
    refine r_goto C dX11_readsLayout_74 (tgt := 78) rfl ?_
    exact (bX11_readsLayout_78 C D g19 w)
def PX11_readsLayout_19 (E : EV) (post : Option AV → AH → Prop) (J19 : AH → Option Nat → Prop) (h : AH) (l0 : Option Nat) : Prop :=
  rdI h l0 11 14 fun x1 => (¬ x1 = 0 → PX11_readsLayout_174 E post h l0) ∧ (x1 = 0 → rdI h l0 11 13 fun x2 => rdI h l0 11 4 fun x3 => (x3 ≤ x2 → PX11_readsLayout_174 E post h l0) ∧ (¬ x3 ≤ x2 → CV (sX11_here E) l0 11 [] h (kI fun x4 h5 => ∀ v6, v6 = (x4 - (48 : Int32)) → CS (sX11_isSlot E) [aI v6] h5 (kI fun x7 h8 => (¬ x7 = 0 → PX11_readsLayout_58 E post J19 h8 l0 v6 l0 (0 : Int32)) ∧ (x7 = 0 → PX11_readsLayout_58 E post J19 h8 l0 v6 l0 (1 : Int32))))))
theorem bX11_readsLayout_19 {E : EV} {X : AX} {post : Option AV → AH → Prop} (C : Cb E X cX11_readsLayout RX11 4 rmX11_readsLayout) (D : Cr E X (some .boolean) rmX11_readsLayout "readsLayout" post) {J19 : AH → Option Nat → Prop} (g19 : ∀ (h : AH) (l0 : Option Nat), J19 h l0 → Go E X 4 0 0 19 [(0, aP l0)] [] h) {h : AH} {l0 : Option Nat} (w : PX11_readsLayout_19 E post J19 h l0) : Go E X 4 0 0 19 [(0, aP l0)] [] h := by
  unfold PX11_readsLayout_19 at w
  refine r_aload_n C dX11_readsLayout_19 rfl 0 rfl ?_
  refine r_getI C fcX11 (f := 14) (by decide) rfl k957 dX11_readsLayout_20 (w.mono fun x1 w => ?_)
  refine r_if_ne C dX11_readsLayout_23 (tgt := 174) rfl (fun hc => ?_) (fun hc => ?_)
  · have w := w.1 hc
    exact (bX11_readsLayout_174 C D w)
  · have w := w.2 hc
    refine r_aload_n C dX11_readsLayout_26 rfl 0 rfl ?_
    refine r_getI C fcX11 (f := 13) (by decide) rfl k956 dX11_readsLayout_27 (w.mono fun x2 w => ?_)
    refine r_aload_n C dX11_readsLayout_30 rfl 0 rfl ?_
    refine r_getI C fcX11 (f := 4) (by decide) rfl k947 dX11_readsLayout_31 (w.mono fun x3 w => ?_)
    refine r_icmp_ge C dX11_readsLayout_34 (tgt := 174) rfl (fun hc => ?_) (fun hc => ?_)
    · have w := w.1 hc
      exact (bX11_readsLayout_174 C D w)
    · have w := w.2 hc
      refine r_aload_n C dX11_readsLayout_37 rfl 0 rfl ?_
      refine r_cvI (rm' := rmX11_here) C mX11_here vX11_here k1060 [] [] rfl rfl (Nat.le_of_ble_eq_true rfl) (by decide) ⟨Nat.zero_le _, Nat.zero_le _⟩ 0 0 rfl rfl dX11_readsLayout_38 w (fun x4 h5 w => ?_)
      refine r_bipush (v := 48) C dX11_readsLayout_41 rfl ?_
      refine r_isub C dX11_readsLayout_43 ?_
      refine r_istore_n C dX11_readsLayout_44 rfl (by decide) rfl ?_
      have w := w _ rfl
      skip
      refine r_aload_n C dX11_readsLayout_45 rfl 1 rfl ?_
      refine r_iload_n C dX11_readsLayout_46 rfl 0 rfl ?_
      refine r_csI (rm' := rmX11_isSlot) C mX11_isSlot vX11_isSlot k1049 [aI (x4 - (48 : Int32))] [aP l0] rfl rfl (Nat.le_of_ble_eq_true rfl) (by decide) ⟨Nat.zero_le _, Nat.zero_le _⟩ 0 0 rfl rfl dX11_readsLayout_47 w (fun x7 h8 w => ?_)
      refine r_if_ne C dX11_readsLayout_50 (tgt := 57) rfl (fun hc => ?_) (fun hc => ?_)
      · have w := w.1 hc
        refine r_iconst (v := 0) C dX11_readsLayout_57 rfl ?_
        exact r_sub [1, 0] rfl (bX11_readsLayout_58 C D g19 w)
      · have w := w.2 hc
        refine r_iconst (v := 1) C dX11_readsLayout_53 rfl ?_
        refine r_goto C dX11_readsLayout_54 (tgt := 58) rfl ?_
        exact r_sub [1, 0] rfl (bX11_readsLayout_58 C D g19 w)
theorem lpX11_readsLayout_19 {E : EV} {X : AX} {post : Option AV → AH → Prop} (C : Cb E X cX11_readsLayout RX11 4 rmX11_readsLayout) (D : Cr E X (some .boolean) rmX11_readsLayout "readsLayout" post) (I : Nat → AH → Option Nat → Prop) (step : ∀ (z : Nat) (h : AH) (l0 : Option Nat), I z h l0 → PX11_readsLayout_19 E post (fun h l0 => ∃ z', z' < z ∧ I z' h l0) h l0) : ∀ (z : Nat) (h : AH) (l0 : Option Nat), I z h l0 → Go E X 4 0 0 19 [(0, aP l0)] [] h := by
  intro z
  induction z using Nat.strongRecOn with
  | _ z ih =>
    intro h l0 hI
    exact bX11_readsLayout_19 C D (fun h l0 hJ => by obtain ⟨z', hz, hi⟩ := hJ; exact ih z' hz h l0 hi) (step z h l0 hI)
def PX11_readsLayout_0 (E : EV) (post : Option AV → AH → Prop) (J19 : AH → Option Nat → Prop) (h : AH) (l0 : Option Nat) : Prop :=
  wr h l0 11 13 (aI (0 : Int32)) fun h1 => wr h1 l0 11 24 (aI (0 : Int32)) fun h2 => wr h2 l0 11 14 (aI (0 : Int32)) fun h3 => CV (sX11_skip E) l0 11 [] h3 (kV fun h5 => J19 h5 l0)
theorem bX11_readsLayout_0 {E : EV} {X : AX} {post : Option AV → AH → Prop} (C : Cb E X cX11_readsLayout RX11 4 rmX11_readsLayout) (D : Cr E X (some .boolean) rmX11_readsLayout "readsLayout" post) {J19 : AH → Option Nat → Prop} (g19 : ∀ (h : AH) (l0 : Option Nat), J19 h l0 → Go E X 4 0 0 19 [(0, aP l0)] [] h) {h : AH} {l0 : Option Nat} (w : PX11_readsLayout_0 E post J19 h l0) : Go E X 4 0 0 0 [(0, aP l0)] [] h := by
  unfold PX11_readsLayout_0 at w
  refine r_aload_n C dX11_readsLayout_0 rfl 0 rfl ?_
  refine r_iconst (v := 0) C dX11_readsLayout_1 rfl ?_
  refine r_put C fcX11 (f := 13) (by decide) rfl rfl rfl rfl k956 dX11_readsLayout_2 (w.mono fun h1 w => ?_)
  refine r_aload_n C dX11_readsLayout_5 rfl 0 rfl ?_
  refine r_iconst (v := 0) C dX11_readsLayout_6 rfl ?_
  refine r_put C fcX11 (f := 24) (by decide) rfl rfl rfl rfl k967 dX11_readsLayout_7 (w.mono fun h2 w => ?_)
  refine r_aload_n C dX11_readsLayout_10 rfl 0 rfl ?_
  refine r_iconst (v := 0) C dX11_readsLayout_11 rfl ?_
  refine r_put C fcX11 (f := 14) (by decide) rfl rfl rfl rfl k957 dX11_readsLayout_12 (w.mono fun h3 w => ?_)
  refine r_aload_n C dX11_readsLayout_15 rfl 0 rfl ?_
  refine r_cvV (rm' := rmX11_skip) C mX11_skip vX11_skip k1056 [] [] rfl rfl (Nat.le_of_ble_eq_true rfl) (by decide) ⟨Nat.zero_le _, Nat.zero_le _⟩ 0 0 rfl rfl dX11_readsLayout_16 w (fun h5 w => ?_)
  exact (g19 h5 l0 w)
theorem eX11_readsLayout {E : EV} {post : Option AV → AH → Prop} {h : AH} {l0 : Option Nat} {J19 : AH → Option Nat → Prop} (g19 : ∀ X : AX, Cb E X cX11_readsLayout RX11 4 rmX11_readsLayout → Cr E X (some .boolean) rmX11_readsLayout "readsLayout" post → ∀ (h : AH) (l0 : Option Nat), J19 h l0 → Go E X 4 0 0 19 [(0, aP l0)] [] h) (w : PX11_readsLayout_0 E post J19 h l0) : sX11_readsLayout E [aP l0] h post := Spec.of RX11 rfl rfl (Nat.le_of_ble_eq_true rfl) fun X C D => bX11_readsLayout_0 C D (g19 X C D) w
theorem dX11_puts_0 : decode cX11_puts 0 = .ok (.aload_n 0, 1) := by decide +kernel
theorem dX11_puts_1 : decode cX11_puts 1 = .ok (.getfield 7, 3) := by decide +kernel
theorem dX11_puts_4 : decode cX11_puts 4 = .ok (.iconst 3, 1) := by decide +kernel
theorem dX11_puts_5 : decode cX11_puts 5 = .ok (.iaload, 1) := by decide +kernel
theorem dX11_puts_6 : decode cX11_puts 6 = .ok (.istore 4, 2) := by decide +kernel
theorem dX11_puts_8 : decode cX11_puts 8 = .ok (.aload_n 0, 1) := by decide +kernel
theorem dX11_puts_9 : decode cX11_puts 9 = .ok (.iload_n 1, 1) := by decide +kernel
theorem dX11_puts_10 : decode cX11_puts 10 = .ok (.iload 4, 2) := by decide +kernel
theorem dX11_puts_12 : decode cX11_puts 12 = .ok (.invokestatic 257, 3) := by decide +kernel
theorem dX11_puts_15 : decode cX11_puts 15 = .ok (.invokevirtual 191, 3) := by decide +kernel
theorem dX11_puts_18 : decode cX11_puts 18 = .ok (.aload_n 0, 1) := by decide +kernel
theorem dX11_puts_19 : decode cX11_puts 19 = .ok (.getfield 7, 3) := by decide +kernel
theorem dX11_puts_22 : decode cX11_puts 22 = .ok (.iload 4, 2) := by decide +kernel
theorem dX11_puts_24 : decode cX11_puts 24 = .ok (.invokestatic 257, 3) := by decide +kernel
theorem dX11_puts_27 : decode cX11_puts 27 = .ok (.bipush 40, 2) := by decide +kernel
theorem dX11_puts_29 : decode cX11_puts 29 = .ok (.iadd, 1) := by decide +kernel
theorem dX11_puts_30 : decode cX11_puts 30 = .ok (.iload_n 2, 1) := by decide +kernel
theorem dX11_puts_31 : decode cX11_puts 31 = .ok (.iastore, 1) := by decide +kernel
theorem dX11_puts_32 : decode cX11_puts 32 = .ok (.aload_n 0, 1) := by decide +kernel
theorem dX11_puts_33 : decode cX11_puts 33 = .ok (.getfield 7, 3) := by decide +kernel
theorem dX11_puts_36 : decode cX11_puts 36 = .ok (.iload 4, 2) := by decide +kernel
theorem dX11_puts_38 : decode cX11_puts 38 = .ok (.invokestatic 257, 3) := by decide +kernel
theorem dX11_puts_41 : decode cX11_puts 41 = .ok (.bipush 40, 2) := by decide +kernel
theorem dX11_puts_43 : decode cX11_puts 43 = .ok (.iadd, 1) := by decide +kernel
theorem dX11_puts_44 : decode cX11_puts 44 = .ok (.iconst 1, 1) := by decide +kernel
theorem dX11_puts_45 : decode cX11_puts 45 = .ok (.iadd, 1) := by decide +kernel
theorem dX11_puts_46 : decode cX11_puts 46 = .ok (.iload_n 3, 1) := by decide +kernel
theorem dX11_puts_47 : decode cX11_puts 47 = .ok (.iastore, 1) := by decide +kernel
theorem dX11_puts_48 : decode cX11_puts 48 = .ok (.aload_n 0, 1) := by decide +kernel
theorem dX11_puts_49 : decode cX11_puts 49 = .ok (.getfield 7, 3) := by decide +kernel
theorem dX11_puts_52 : decode cX11_puts 52 = .ok (.iconst 3, 1) := by decide +kernel
theorem dX11_puts_53 : decode cX11_puts 53 = .ok (.dup2, 1) := by decide +kernel
theorem dX11_puts_54 : decode cX11_puts 54 = .ok (.iaload, 1) := by decide +kernel
theorem dX11_puts_55 : decode cX11_puts 55 = .ok (.iconst 1, 1) := by decide +kernel
theorem dX11_puts_56 : decode cX11_puts 56 = .ok (.iadd, 1) := by decide +kernel
theorem dX11_puts_57 : decode cX11_puts 57 = .ok (.iastore, 1) := by decide +kernel
theorem dX11_puts_58 : decode cX11_puts 58 = .ok (.iload 4, 2) := by decide +kernel
theorem dX11_puts_60 : decode cX11_puts 60 = .ok (.ireturn, 1) := by decide +kernel
abbrev rmX11_puts : Room := { frames := 1, cells := 0, slots := 0, locals := 40 }
abbrev sX11_puts (E : EV) : List AV → AH → (Option AV → AH → Prop) → Prop := Spec E yX11_puts cX11_puts 5 (some .int) rmX11_puts
theorem mX11_puts : Mt yX11_puts cX11_puts 5 (some .int) 3 := ⟨k1311, k12, by decide +kernel⟩
theorem vX11_puts : MtV yX11_puts 11 := ⟨k1310, kp70, by decide, (RX11, TX11, 26), rfl, rfl⟩
def PX11_puts_0 (E : EV) (post : Option AV → AH → Prop) (h : AH) (l0 : Option Nat) (l1 : Int32) (l2 : Int32) (l3 : Int32) : Prop :=
  rdP h l0 11 0 fun x1 => aldI h x1 0 (3 : Int32) fun x2 => CS (sX11_itemShape E) [aI x2] h (kI fun x4 h5 => CV (sX11_copy E) l0 11 [aI l1, aI x4] h5 (kV fun h7 => rdP h7 l0 11 0 fun x8 => CS (sX11_itemShape E) [aI x2] h7 (kI fun x9 h10 => astI h10 x8 0 (x9 + (40 : Int32)) l2 fun h11 => rdP h11 l0 11 0 fun x12 => CS (sX11_itemShape E) [aI x2] h11 (kI fun x13 h14 => astI h14 x12 0 ((x13 + (40 : Int32)) + (1 : Int32)) l3 fun h15 => rdP h15 l0 11 0 fun x16 => aldI h15 x16 0 (3 : Int32) fun x17 => astI h15 x16 0 (3 : Int32) (x17 + (1 : Int32)) fun h18 => post (some (aI x2)) h18))))
theorem bX11_puts_0 {E : EV} {X : AX} {post : Option AV → AH → Prop} (C : Cb E X cX11_puts RX11 5 rmX11_puts) (D : Cr E X (some .int) rmX11_puts "puts" post) {h : AH} {l0 : Option Nat} {l1 : Int32} {l2 : Int32} {l3 : Int32} (w : PX11_puts_0 E post h l0 l1 l2 l3) : Go E X 5 0 0 0 [(0, aP l0), (1, aI l1), (2, aI l2), (3, aI l3)] [] h := by
  unfold PX11_puts_0 at w
  refine r_aload_n C dX11_puts_0 rfl 0 rfl ?_
  refine r_getP C fcX11 (f := 0) (by decide) rfl k943 dX11_puts_1 (w.mono fun x1 w => ?_)
  refine r_iconst (v := 3) C dX11_puts_4 rfl ?_
  refine r_iald C dX11_puts_5 (w.mono fun x2 w => ?_)
  refine r_istore C dX11_puts_6 (by decide) rfl ?_
  refine r_aload_n C dX11_puts_8 rfl 1 rfl ?_
  refine r_iload_n C dX11_puts_9 rfl 2 rfl ?_
  refine r_iload C dX11_puts_10 0 rfl ?_
  refine r_csI (rm' := rmX11_itemShape) C mX11_itemShape vX11_itemShape k1281 [aI x2] [aI l1, aP l0] rfl rfl (Nat.le_of_ble_eq_true rfl) (by decide) ⟨Nat.zero_le _, Nat.zero_le _⟩ 0 0 rfl rfl dX11_puts_12 w (fun x4 h5 w => ?_)
  refine r_cvV (rm' := rmX11_copy) C mX11_copy vX11_copy k1103 [aI l1, aI x4] [] rfl rfl (Nat.le_of_ble_eq_true rfl) (by decide) ⟨Nat.zero_le _, Nat.zero_le _⟩ 0 0 rfl rfl dX11_puts_15 w (fun h7 w => ?_)
  refine r_aload_n C dX11_puts_18 rfl 1 rfl ?_
  refine r_getP C fcX11 (f := 0) (by decide) rfl k943 dX11_puts_19 (w.mono fun x8 w => ?_)
  refine r_iload C dX11_puts_22 0 rfl ?_
  refine r_csI (rm' := rmX11_itemShape) C mX11_itemShape vX11_itemShape k1281 [aI x2] [aP x8] rfl rfl (Nat.le_of_ble_eq_true rfl) (by decide) ⟨Nat.zero_le _, Nat.zero_le _⟩ 0 0 rfl rfl dX11_puts_24 w (fun x9 h10 w => ?_)
  refine r_bipush (v := 40) C dX11_puts_27 rfl ?_
  refine r_iadd C dX11_puts_29 ?_
  refine r_iload_n C dX11_puts_30 rfl 3 rfl ?_
  refine r_iast C dX11_puts_31 (w.mono fun h11 w => ?_)
  refine r_aload_n C dX11_puts_32 rfl 1 rfl ?_
  refine r_getP C fcX11 (f := 0) (by decide) rfl k943 dX11_puts_33 (w.mono fun x12 w => ?_)
  refine r_iload C dX11_puts_36 0 rfl ?_
  refine r_csI (rm' := rmX11_itemShape) C mX11_itemShape vX11_itemShape k1281 [aI x2] [aP x12] rfl rfl (Nat.le_of_ble_eq_true rfl) (by decide) ⟨Nat.zero_le _, Nat.zero_le _⟩ 0 0 rfl rfl dX11_puts_38 w (fun x13 h14 w => ?_)
  refine r_bipush (v := 40) C dX11_puts_41 rfl ?_
  refine r_iadd C dX11_puts_43 ?_
  refine r_iconst (v := 1) C dX11_puts_44 rfl ?_
  refine r_iadd C dX11_puts_45 ?_
  refine r_iload_n C dX11_puts_46 rfl 4 rfl ?_
  refine r_iast C dX11_puts_47 (w.mono fun h15 w => ?_)
  refine r_aload_n C dX11_puts_48 rfl 1 rfl ?_
  refine r_getP C fcX11 (f := 0) (by decide) rfl k943 dX11_puts_49 (w.mono fun x16 w => ?_)
  refine r_iconst (v := 3) C dX11_puts_52 rfl ?_
  refine r_dup2 C dX11_puts_53 rfl rfl ?_
  refine r_iald C dX11_puts_54 (w.mono fun x17 w => ?_)
  refine r_iconst (v := 1) C dX11_puts_55 rfl ?_
  refine r_iadd C dX11_puts_56 ?_
  refine r_iast C dX11_puts_57 (w.mono fun h18 w => ?_)
  refine r_iload C dX11_puts_58 0 rfl ?_
  exact r_iret C D rfl (Nat.zero_le _) (Nat.zero_le _) dX11_puts_60 w
theorem eX11_puts {E : EV} {post : Option AV → AH → Prop} {h : AH} {l0 : Option Nat} {l1 : Int32} {l2 : Int32} {l3 : Int32} (w : PX11_puts_0 E post h l0 l1 l2 l3) : sX11_puts E [aP l0, aI l1, aI l2, aI l3] h post := Spec.of RX11 rfl rfl (Nat.le_of_ble_eq_true rfl) fun X C D => bX11_puts_0 C D w
theorem dX11_loadLayout_0 : decode cX11_loadLayout 0 = .ok (.aload_n 0, 1) := by decide +kernel
theorem dX11_loadLayout_1 : decode cX11_loadLayout 1 = .ok (.invokevirtual 292, 3) := by decide +kernel
theorem dX11_loadLayout_4 : decode cX11_loadLayout 4 = .ok (.ifCond .ne 11, 3) := by decide +kernel
theorem dX11_loadLayout_7 : decode cX11_loadLayout 7 = .ok (.bipush (-10), 2) := by decide +kernel
theorem dX11_loadLayout_9 : decode cX11_loadLayout 9 = .ok (.aload_n 0, 1) := by decide +kernel
theorem dX11_loadLayout_10 : decode cX11_loadLayout 10 = .ok (.getfield 150, 3) := by decide +kernel
theorem dX11_loadLayout_13 : decode cX11_loadLayout 13 = .ok (.isub, 1) := by decide +kernel
theorem dX11_loadLayout_14 : decode cX11_loadLayout 14 = .ok (.ireturn, 1) := by decide +kernel
theorem dX11_loadLayout_15 : decode cX11_loadLayout 15 = .ok (.iconst 0, 1) := by decide +kernel
theorem dX11_loadLayout_16 : decode cX11_loadLayout 16 = .ok (.istore_n 1, 1) := by decide +kernel
theorem dX11_loadLayout_17 : decode cX11_loadLayout 17 = .ok (.iload_n 1, 1) := by decide +kernel
theorem dX11_loadLayout_18 : decode cX11_loadLayout 18 = .ok (.sipush 500, 3) := by decide +kernel
theorem dX11_loadLayout_21 : decode cX11_loadLayout 21 = .ok (.if_icmp .ge 21, 3) := by decide +kernel
theorem dX11_loadLayout_24 : decode cX11_loadLayout 24 = .ok (.aload_n 0, 1) := by decide +kernel
theorem dX11_loadLayout_25 : decode cX11_loadLayout 25 = .ok (.getfield 35, 3) := by decide +kernel
theorem dX11_loadLayout_28 : decode cX11_loadLayout 28 = .ok (.iload_n 1, 1) := by decide +kernel
theorem dX11_loadLayout_29 : decode cX11_loadLayout 29 = .ok (.aload_n 0, 1) := by decide +kernel
theorem dX11_loadLayout_30 : decode cX11_loadLayout 30 = .ok (.getfield 7, 3) := by decide +kernel
theorem dX11_loadLayout_33 : decode cX11_loadLayout 33 = .ok (.iload_n 1, 1) := by decide +kernel
theorem dX11_loadLayout_34 : decode cX11_loadLayout 34 = .ok (.iaload, 1) := by decide +kernel
theorem dX11_loadLayout_35 : decode cX11_loadLayout 35 = .ok (.iastore, 1) := by decide +kernel
theorem dX11_loadLayout_36 : decode cX11_loadLayout 36 = .ok (.iinc 1 1, 3) := by decide +kernel
theorem dX11_loadLayout_39 : decode cX11_loadLayout 39 = .ok (.goto (-22), 3) := by decide +kernel
theorem dX11_loadLayout_42 : decode cX11_loadLayout 42 = .ok (.aload_n 0, 1) := by decide +kernel
theorem dX11_loadLayout_43 : decode cX11_loadLayout 43 = .ok (.getfield 7, 3) := by decide +kernel
theorem dX11_loadLayout_46 : decode cX11_loadLayout 46 = .ok (.iconst 3, 1) := by decide +kernel
theorem dX11_loadLayout_47 : decode cX11_loadLayout 47 = .ok (.iconst 0, 1) := by decide +kernel
theorem dX11_loadLayout_48 : decode cX11_loadLayout 48 = .ok (.iastore, 1) := by decide +kernel
theorem dX11_loadLayout_49 : decode cX11_loadLayout 49 = .ok (.iconst 1, 1) := by decide +kernel
theorem dX11_loadLayout_50 : decode cX11_loadLayout 50 = .ok (.istore_n 1, 1) := by decide +kernel
theorem dX11_loadLayout_51 : decode cX11_loadLayout 51 = .ok (.iconst 0, 1) := by decide +kernel
theorem dX11_loadLayout_52 : decode cX11_loadLayout 52 = .ok (.istore_n 2, 1) := by decide +kernel
theorem dX11_loadLayout_53 : decode cX11_loadLayout 53 = .ok (.iload_n 2, 1) := by decide +kernel
theorem dX11_loadLayout_54 : decode cX11_loadLayout 54 = .ok (.aload_n 0, 1) := by decide +kernel
theorem dX11_loadLayout_55 : decode cX11_loadLayout 55 = .ok (.getfield 286, 3) := by decide +kernel
theorem dX11_loadLayout_58 : decode cX11_loadLayout 58 = .ok (.if_icmp .ge 126, 3) := by decide +kernel
theorem dX11_loadLayout_61 : decode cX11_loadLayout 61 = .ok (.iload_n 1, 1) := by decide +kernel
theorem dX11_loadLayout_62 : decode cX11_loadLayout 62 = .ok (.ifCond .eq 122, 3) := by decide +kernel
theorem dX11_loadLayout_65 : decode cX11_loadLayout 65 = .ok (.aload_n 0, 1) := by decide +kernel
theorem dX11_loadLayout_66 : decode cX11_loadLayout 66 = .ok (.getfield 32, 3) := by decide +kernel
theorem dX11_loadLayout_69 : decode cX11_loadLayout 69 = .ok (.iconst 3, 1) := by decide +kernel
theorem dX11_loadLayout_70 : decode cX11_loadLayout 70 = .ok (.iload_n 2, 1) := by decide +kernel
theorem dX11_loadLayout_71 : decode cX11_loadLayout 71 = .ok (.imul, 1) := by decide +kernel
theorem dX11_loadLayout_72 : decode cX11_loadLayout 72 = .ok (.iaload, 1) := by decide +kernel
theorem dX11_loadLayout_73 : decode cX11_loadLayout 73 = .ok (.istore_n 3, 1) := by decide +kernel
theorem dX11_loadLayout_74 : decode cX11_loadLayout 74 = .ok (.aload_n 0, 1) := by decide +kernel
theorem dX11_loadLayout_75 : decode cX11_loadLayout 75 = .ok (.iload_n 3, 1) := by decide +kernel
theorem dX11_loadLayout_76 : decode cX11_loadLayout 76 = .ok (.invokevirtual 195, 3) := by decide +kernel
theorem dX11_loadLayout_79 : decode cX11_loadLayout 79 = .ok (.ifCond .ne 51, 3) := by decide +kernel
theorem dX11_loadLayout_82 : decode cX11_loadLayout 82 = .ok (.aload_n 0, 1) := by decide +kernel
theorem dX11_loadLayout_83 : decode cX11_loadLayout 83 = .ok (.getfield 7, 3) := by decide +kernel
theorem dX11_loadLayout_86 : decode cX11_loadLayout 86 = .ok (.iconst 3, 1) := by decide +kernel
theorem dX11_loadLayout_87 : decode cX11_loadLayout 87 = .ok (.iaload, 1) := by decide +kernel
theorem dX11_loadLayout_88 : decode cX11_loadLayout 88 = .ok (.bipush 8, 2) := by decide +kernel
theorem dX11_loadLayout_90 : decode cX11_loadLayout 90 = .ok (.if_icmp .ge 40, 3) := by decide +kernel
theorem dX11_loadLayout_93 : decode cX11_loadLayout 93 = .ok (.aload_n 0, 1) := by decide +kernel
theorem dX11_loadLayout_94 : decode cX11_loadLayout 94 = .ok (.iload_n 3, 1) := by decide +kernel
theorem dX11_loadLayout_95 : decode cX11_loadLayout 95 = .ok (.invokestatic 50, 3) := by decide +kernel
theorem dX11_loadLayout_98 : decode cX11_loadLayout 98 = .ok (.aload_n 0, 1) := by decide +kernel
theorem dX11_loadLayout_99 : decode cX11_loadLayout 99 = .ok (.getfield 32, 3) := by decide +kernel
theorem dX11_loadLayout_102 : decode cX11_loadLayout 102 = .ok (.iconst 3, 1) := by decide +kernel
theorem dX11_loadLayout_103 : decode cX11_loadLayout 103 = .ok (.iload_n 2, 1) := by decide +kernel
theorem dX11_loadLayout_104 : decode cX11_loadLayout 104 = .ok (.imul, 1) := by decide +kernel
theorem dX11_loadLayout_105 : decode cX11_loadLayout 105 = .ok (.iconst 1, 1) := by decide +kernel
theorem dX11_loadLayout_106 : decode cX11_loadLayout 106 = .ok (.iadd, 1) := by decide +kernel
theorem dX11_loadLayout_107 : decode cX11_loadLayout 107 = .ok (.iaload, 1) := by decide +kernel
theorem dX11_loadLayout_108 : decode cX11_loadLayout 108 = .ok (.aload_n 0, 1) := by decide +kernel
theorem dX11_loadLayout_109 : decode cX11_loadLayout 109 = .ok (.getfield 32, 3) := by decide +kernel
theorem dX11_loadLayout_112 : decode cX11_loadLayout 112 = .ok (.iconst 3, 1) := by decide +kernel
theorem dX11_loadLayout_113 : decode cX11_loadLayout 113 = .ok (.iload_n 2, 1) := by decide +kernel
theorem dX11_loadLayout_114 : decode cX11_loadLayout 114 = .ok (.imul, 1) := by decide +kernel
theorem dX11_loadLayout_115 : decode cX11_loadLayout 115 = .ok (.iconst 2, 1) := by decide +kernel
theorem dX11_loadLayout_116 : decode cX11_loadLayout 116 = .ok (.iadd, 1) := by decide +kernel
theorem dX11_loadLayout_117 : decode cX11_loadLayout 117 = .ok (.iaload, 1) := by decide +kernel
theorem dX11_loadLayout_118 : decode cX11_loadLayout 118 = .ok (.ldc 226, 2) := by decide +kernel
theorem dX11_loadLayout_120 : decode cX11_loadLayout 120 = .ok (.invokevirtual 266, 3) := by decide +kernel
theorem dX11_loadLayout_123 : decode cX11_loadLayout 123 = .ok (.ifCond .eq 7, 3) := by decide +kernel
theorem dX11_loadLayout_126 : decode cX11_loadLayout 126 = .ok (.iconst 1, 1) := by decide +kernel
theorem dX11_loadLayout_127 : decode cX11_loadLayout 127 = .ok (.goto 4, 3) := by decide +kernel
theorem dX11_loadLayout_130 : decode cX11_loadLayout 130 = .ok (.iconst 0, 1) := by decide +kernel
theorem dX11_loadLayout_131 : decode cX11_loadLayout 131 = .ok (.istore_n 1, 1) := by decide +kernel
theorem dX11_loadLayout_132 : decode cX11_loadLayout 132 = .ok (.iload_n 1, 1) := by decide +kernel
theorem dX11_loadLayout_133 : decode cX11_loadLayout 133 = .ok (.ifCond .eq 45, 3) := by decide +kernel
theorem dX11_loadLayout_136 : decode cX11_loadLayout 136 = .ok (.aload_n 0, 1) := by decide +kernel
theorem dX11_loadLayout_137 : decode cX11_loadLayout 137 = .ok (.iload_n 3, 1) := by decide +kernel
theorem dX11_loadLayout_138 : decode cX11_loadLayout 138 = .ok (.invokestatic 50, 3) := by decide +kernel
theorem dX11_loadLayout_141 : decode cX11_loadLayout 141 = .ok (.aload_n 0, 1) := by decide +kernel
theorem dX11_loadLayout_142 : decode cX11_loadLayout 142 = .ok (.getfield 32, 3) := by decide +kernel
theorem dX11_loadLayout_145 : decode cX11_loadLayout 145 = .ok (.iconst 3, 1) := by decide +kernel
theorem dX11_loadLayout_146 : decode cX11_loadLayout 146 = .ok (.iload_n 2, 1) := by decide +kernel
theorem dX11_loadLayout_147 : decode cX11_loadLayout 147 = .ok (.imul, 1) := by decide +kernel
theorem dX11_loadLayout_148 : decode cX11_loadLayout 148 = .ok (.iconst 1, 1) := by decide +kernel
theorem dX11_loadLayout_149 : decode cX11_loadLayout 149 = .ok (.iadd, 1) := by decide +kernel
theorem dX11_loadLayout_150 : decode cX11_loadLayout 150 = .ok (.iaload, 1) := by decide +kernel
theorem dX11_loadLayout_151 : decode cX11_loadLayout 151 = .ok (.aload_n 0, 1) := by decide +kernel
theorem dX11_loadLayout_152 : decode cX11_loadLayout 152 = .ok (.getfield 32, 3) := by decide +kernel
theorem dX11_loadLayout_155 : decode cX11_loadLayout 155 = .ok (.iconst 3, 1) := by decide +kernel
theorem dX11_loadLayout_156 : decode cX11_loadLayout 156 = .ok (.iload_n 2, 1) := by decide +kernel
theorem dX11_loadLayout_157 : decode cX11_loadLayout 157 = .ok (.imul, 1) := by decide +kernel
theorem dX11_loadLayout_158 : decode cX11_loadLayout 158 = .ok (.iconst 2, 1) := by decide +kernel
theorem dX11_loadLayout_159 : decode cX11_loadLayout 159 = .ok (.iadd, 1) := by decide +kernel
theorem dX11_loadLayout_160 : decode cX11_loadLayout 160 = .ok (.iaload, 1) := by decide +kernel
theorem dX11_loadLayout_161 : decode cX11_loadLayout 161 = .ok (.invokevirtual 270, 3) := by decide +kernel
theorem dX11_loadLayout_164 : decode cX11_loadLayout 164 = .ok (.istore 4, 2) := by decide +kernel
theorem dX11_loadLayout_166 : decode cX11_loadLayout 166 = .ok (.iload 4, 2) := by decide +kernel
theorem dX11_loadLayout_168 : decode cX11_loadLayout 168 = .ok (.iload_n 2, 1) := by decide +kernel
theorem dX11_loadLayout_169 : decode cX11_loadLayout 169 = .ok (.if_icmp .ne 7, 3) := by decide +kernel
theorem dX11_loadLayout_172 : decode cX11_loadLayout 172 = .ok (.iconst 1, 1) := by decide +kernel
theorem dX11_loadLayout_173 : decode cX11_loadLayout 173 = .ok (.goto 4, 3) := by decide +kernel
theorem dX11_loadLayout_176 : decode cX11_loadLayout 176 = .ok (.iconst 0, 1) := by decide +kernel
theorem dX11_loadLayout_177 : decode cX11_loadLayout 177 = .ok (.istore_n 1, 1) := by decide +kernel
theorem dX11_loadLayout_178 : decode cX11_loadLayout 178 = .ok (.iinc 2 1, 3) := by decide +kernel
theorem dX11_loadLayout_181 : decode cX11_loadLayout 181 = .ok (.goto (-128), 3) := by decide +kernel
theorem dX11_loadLayout_184 : decode cX11_loadLayout 184 = .ok (.aload_n 0, 1) := by decide +kernel
theorem dX11_loadLayout_185 : decode cX11_loadLayout 185 = .ok (.invokevirtual 295, 3) := by decide +kernel
theorem dX11_loadLayout_188 : decode cX11_loadLayout 188 = .ok (.iload_n 1, 1) := by decide +kernel
theorem dX11_loadLayout_189 : decode cX11_loadLayout 189 = .ok (.ifCond .ne 6, 3) := by decide +kernel
theorem dX11_loadLayout_192 : decode cX11_loadLayout 192 = .ok (.ldc 42, 2) := by decide +kernel
theorem dX11_loadLayout_194 : decode cX11_loadLayout 194 = .ok (.ireturn, 1) := by decide +kernel
theorem dX11_loadLayout_195 : decode cX11_loadLayout 195 = .ok (.aload_n 0, 1) := by decide +kernel
theorem dX11_loadLayout_196 : decode cX11_loadLayout 196 = .ok (.invokevirtual 188, 3) := by decide +kernel
theorem dX11_loadLayout_199 : decode cX11_loadLayout 199 = .ok (.aload_n 0, 1) := by decide +kernel
theorem dX11_loadLayout_200 : decode cX11_loadLayout 200 = .ok (.invokevirtual 295, 3) := by decide +kernel
theorem dX11_loadLayout_203 : decode cX11_loadLayout 203 = .ok (.aload_n 0, 1) := by decide +kernel
theorem dX11_loadLayout_204 : decode cX11_loadLayout 204 = .ok (.iconst 0, 1) := by decide +kernel
theorem dX11_loadLayout_205 : decode cX11_loadLayout 205 = .ok (.putfield 146, 3) := by decide +kernel
theorem dX11_loadLayout_208 : decode cX11_loadLayout 208 = .ok (.aload_n 0, 1) := by decide +kernel
theorem dX11_loadLayout_209 : decode cX11_loadLayout 209 = .ok (.getfield 286, 3) := by decide +kernel
theorem dX11_loadLayout_212 : decode cX11_loadLayout 212 = .ok (.ireturn, 1) := by decide +kernel
abbrev rmX11_loadLayout : Room := { frames := 6, cells := 0, slots := 0, locals := 240 }
abbrev sX11_loadLayout (E : EV) : List AV → AH → (Option AV → AH → Prop) → Prop := Spec E yX11_loadLayout cX11_loadLayout 5 (some .int) rmX11_loadLayout
theorem mX11_loadLayout : Mt yX11_loadLayout cX11_loadLayout 5 (some .int) 0 := ⟨k1332, k12, by decide +kernel⟩
theorem vX11_loadLayout : MtV yX11_loadLayout 11 := ⟨k1330, k1331, by decide, (RX11, TX11, 26), rfl, rfl⟩
def PX11_loadLayout_184 (E : EV) (post : Option AV → AH → Prop) (h : AH) (l0 : Option Nat) (l1 : Int32) : Prop :=
  CV (sX11_exchanges E) l0 11 [] h (kV fun h2 => (¬ l1 = 0 → CV (sX11_note E) l0 11 [] h2 (kV fun h4 => CV (sX11_exchanges E) l0 11 [] h4 (kV fun h6 => wr h6 l0 11 4 (aI (0 : Int32)) fun h7 => rdI h7 l0 11 24 fun x8 => post (some (aI x8)) h7))) ∧ (l1 = 0 → post (some (aI (-1000002 : Int32))) h2))
theorem bX11_loadLayout_184 {E : EV} {X : AX} {post : Option AV → AH → Prop} (C : Cb E X cX11_loadLayout RX11 5 rmX11_loadLayout) (D : Cr E X (some .int) rmX11_loadLayout "loadLayout" post) {h : AH} {l0 : Option Nat} {l1 : Int32} (w : PX11_loadLayout_184 E post h l0 l1) : Go E X 5 0 0 184 [(0, aP l0), (1, aI l1)] [] h := by
  unfold PX11_loadLayout_184 at w
  refine r_aload_n C dX11_loadLayout_184 rfl 0 rfl ?_
  refine r_cvV (rm' := rmX11_exchanges) C mX11_exchanges vX11_exchanges k1341 [] [] rfl rfl (Nat.le_of_ble_eq_true rfl) (by decide) ⟨Nat.zero_le _, Nat.zero_le _⟩ 0 0 rfl rfl dX11_loadLayout_185 w (fun h2 w => ?_)
  refine r_iload_n C dX11_loadLayout_188 rfl 1 rfl ?_
  refine r_if_ne C dX11_loadLayout_189 (tgt := 195) rfl (fun hc => ?_) (fun hc => ?_)
  · have w := w.1 hc
    refine r_aload_n C dX11_loadLayout_195 rfl 0 rfl ?_
    refine r_cvV (rm' := rmX11_note) C mX11_note vX11_note k1096 [] [] rfl rfl (Nat.le_of_ble_eq_true rfl) (by decide) ⟨Nat.zero_le _, Nat.zero_le _⟩ 0 0 rfl rfl dX11_loadLayout_196 w (fun h4 w => ?_)
    refine r_aload_n C dX11_loadLayout_199 rfl 0 rfl ?_
    refine r_cvV (rm' := rmX11_exchanges) C mX11_exchanges vX11_exchanges k1341 [] [] rfl rfl (Nat.le_of_ble_eq_true rfl) (by decide) ⟨Nat.zero_le _, Nat.zero_le _⟩ 0 0 rfl rfl dX11_loadLayout_200 w (fun h6 w => ?_)
    refine r_aload_n C dX11_loadLayout_203 rfl 0 rfl ?_
    refine r_iconst (v := 0) C dX11_loadLayout_204 rfl ?_
    refine r_put C fcX11 (f := 4) (by decide) rfl rfl rfl rfl k947 dX11_loadLayout_205 (w.mono fun h7 w => ?_)
    refine r_aload_n C dX11_loadLayout_208 rfl 0 rfl ?_
    refine r_getI C fcX11 (f := 24) (by decide) rfl k967 dX11_loadLayout_209 (w.mono fun x8 w => ?_)
    exact r_iret C D rfl (Nat.zero_le _) (Nat.zero_le _) dX11_loadLayout_212 w
  · have w := w.2 hc
    refine r_ldc (v := -1000002) C dX11_loadLayout_192 k1027 ?_
    exact r_iret C D rfl (Nat.zero_le _) (Nat.zero_le _) dX11_loadLayout_194 w
def PX11_loadLayout_131 (E : EV) (post : Option AV → AH → Prop) (J53 : AH → Option Nat → Int32 → Int32 → Prop) (h : AH) (l0 : Option Nat) (l2 : Int32) (l3 : Int32) (s0 : Int32) : Prop :=
  (s0 = 0 → J53 h l0 s0 (l2 + (1 : Int32))) ∧ (¬ s0 = 0 → CS (sX11_slotAt E) [aI l3] h (kI fun x2 h3 => rdP h3 l0 11 23 fun x4 => aldI h3 x4 0 (((3 : Int32) * l2) + (1 : Int32)) fun x5 => rdP h3 l0 11 23 fun x6 => aldI h3 x6 0 (((3 : Int32) * l2) + (2 : Int32)) fun x7 => CV (sX11_puts E) l0 11 [aI x2, aI x5, aI x7] h3 (kI fun x8 h9 => (¬ x8 = l2 → J53 h9 l0 (0 : Int32) (l2 + (1 : Int32))) ∧ (x8 = l2 → J53 h9 l0 (1 : Int32) (l2 + (1 : Int32))))))
theorem bX11_loadLayout_131 {E : EV} {X : AX} {post : Option AV → AH → Prop} (C : Cb E X cX11_loadLayout RX11 5 rmX11_loadLayout) (D : Cr E X (some .int) rmX11_loadLayout "loadLayout" post) {J53 : AH → Option Nat → Int32 → Int32 → Prop} (g53 : ∀ (h : AH) (l0 : Option Nat) (l1 : Int32) (l2 : Int32), J53 h l0 l1 l2 → Go E X 5 0 0 53 [(0, aP l0), (1, aI l1), (2, aI l2)] [] h) {h : AH} {l0 : Option Nat} {l2 : Int32} {l3 : Int32} {s0 : Int32} (w : PX11_loadLayout_131 E post J53 h l0 l2 l3 s0) : Go E X 5 0 0 131 [(0, aP l0), (2, aI l2), (3, aI l3)] [aI s0] h := by
  unfold PX11_loadLayout_131 at w
  refine r_istore_n C dX11_loadLayout_131 rfl (by decide) rfl ?_
  refine r_iload_n C dX11_loadLayout_132 rfl 0 rfl ?_
  refine r_if_eq C dX11_loadLayout_133 (tgt := 178) rfl (fun hc => ?_) (fun hc => ?_)
  · have w := w.1 hc
    refine r_iinc C dX11_loadLayout_178 2 rfl (v := 1) rfl (by decide) rfl ?_
    refine r_goto C dX11_loadLayout_181 (tgt := 53) rfl ?_
    exact r_sub [2, 1, 0] rfl (g53 h l0 s0 (l2 + (1 : Int32)) w)
  · have w := w.2 hc
    refine r_aload_n C dX11_loadLayout_136 rfl 1 rfl ?_
    refine r_iload_n C dX11_loadLayout_137 rfl 3 rfl ?_
    refine r_csI (rm' := rmX11_slotAt) C mX11_slotAt vX11_slotAt k1100 [aI l3] [aP l0] rfl rfl (Nat.le_of_ble_eq_true rfl) (by decide) ⟨Nat.zero_le _, Nat.zero_le _⟩ 0 0 rfl rfl dX11_loadLayout_138 w (fun x2 h3 w => ?_)
    refine r_aload_n C dX11_loadLayout_141 rfl 1 rfl ?_
    refine r_getP C fcX11 (f := 23) (by decide) rfl k966 dX11_loadLayout_142 (w.mono fun x4 w => ?_)
    refine r_iconst (v := 3) C dX11_loadLayout_145 rfl ?_
    refine r_iload_n C dX11_loadLayout_146 rfl 2 rfl ?_
    refine r_imul C dX11_loadLayout_147 ?_
    refine r_iconst (v := 1) C dX11_loadLayout_148 rfl ?_
    refine r_iadd C dX11_loadLayout_149 ?_
    refine r_iald C dX11_loadLayout_150 (w.mono fun x5 w => ?_)
    refine r_aload_n C dX11_loadLayout_151 rfl 1 rfl ?_
    refine r_getP C fcX11 (f := 23) (by decide) rfl k966 dX11_loadLayout_152 (w.mono fun x6 w => ?_)
    refine r_iconst (v := 3) C dX11_loadLayout_155 rfl ?_
    refine r_iload_n C dX11_loadLayout_156 rfl 2 rfl ?_
    refine r_imul C dX11_loadLayout_157 ?_
    refine r_iconst (v := 2) C dX11_loadLayout_158 rfl ?_
    refine r_iadd C dX11_loadLayout_159 ?_
    refine r_iald C dX11_loadLayout_160 (w.mono fun x7 w => ?_)
    refine r_cvI (rm' := rmX11_puts) C mX11_puts vX11_puts k1308 [aI x2, aI x5, aI x7] [] rfl rfl (Nat.le_of_ble_eq_true rfl) (by decide) ⟨Nat.zero_le _, Nat.zero_le _⟩ 0 0 rfl rfl dX11_loadLayout_161 w (fun x8 h9 w => ?_)
    refine r_istore C dX11_loadLayout_164 (by decide) rfl ?_
    refine r_iload C dX11_loadLayout_166 0 rfl ?_
    refine r_iload_n C dX11_loadLayout_168 rfl 3 rfl ?_
    refine r_icmp_ne C dX11_loadLayout_169 (tgt := 176) rfl (fun hc => ?_) (fun hc => ?_)
    · have w := w.1 hc
      refine r_iconst (v := 0) C dX11_loadLayout_176 rfl ?_
      refine r_istore_n C dX11_loadLayout_177 rfl (by decide) rfl ?_
      refine r_iinc C dX11_loadLayout_178 3 rfl (v := 1) rfl (by decide) rfl ?_
      refine r_goto C dX11_loadLayout_181 (tgt := 53) rfl ?_
      exact r_sub [3, 1, 0] rfl (g53 h9 l0 (0 : Int32) (l2 + (1 : Int32)) w)
    · have w := w.2 hc
      refine r_iconst (v := 1) C dX11_loadLayout_172 rfl ?_
      refine r_goto C dX11_loadLayout_173 (tgt := 177) rfl ?_
      refine r_istore_n C dX11_loadLayout_177 rfl (by decide) rfl ?_
      refine r_iinc C dX11_loadLayout_178 3 rfl (v := 1) rfl (by decide) rfl ?_
      refine r_goto C dX11_loadLayout_181 (tgt := 53) rfl ?_
      exact r_sub [3, 1, 0] rfl (g53 h9 l0 (1 : Int32) (l2 + (1 : Int32)) w)
def PX11_loadLayout_130 (E : EV) (post : Option AV → AH → Prop) (J53 : AH → Option Nat → Int32 → Int32 → Prop) (h : AH) (l0 : Option Nat) (l2 : Int32) (l3 : Int32) : Prop :=
  PX11_loadLayout_131 E post J53 h l0 l2 l3 (0 : Int32)
theorem bX11_loadLayout_130 {E : EV} {X : AX} {post : Option AV → AH → Prop} (C : Cb E X cX11_loadLayout RX11 5 rmX11_loadLayout) (D : Cr E X (some .int) rmX11_loadLayout "loadLayout" post) {J53 : AH → Option Nat → Int32 → Int32 → Prop} (g53 : ∀ (h : AH) (l0 : Option Nat) (l1 : Int32) (l2 : Int32), J53 h l0 l1 l2 → Go E X 5 0 0 53 [(0, aP l0), (1, aI l1), (2, aI l2)] [] h) {h : AH} {l0 : Option Nat} {l2 : Int32} {l3 : Int32} (w : PX11_loadLayout_130 E post J53 h l0 l2 l3) : Go E X 5 0 0 130 [(0, aP l0), (2, aI l2), (3, aI l3)] [] h := by
  unfold PX11_loadLayout_130 at w
  refine r_iconst (v := 0) C dX11_loadLayout_130 rfl ?_
  exact (bX11_loadLayout_131 C D g53 w)
def PX11_loadLayout_53 (E : EV) (post : Option AV → AH → Prop) (J53 : AH → Option Nat → Int32 → Int32 → Prop) (h : AH) (l0 : Option Nat) (l1 : Int32) (l2 : Int32) : Prop :=
  rdI h l0 11 24 fun x1 => (x1 ≤ l2 → PX11_loadLayout_184 E post h l0 l1) ∧ (¬ x1 ≤ l2 → (l1 = 0 → PX11_loadLayout_184 E post h l0 l1) ∧ (¬ l1 = 0 → rdP h l0 11 23 fun x2 => aldI h x2 0 ((3 : Int32) * l2) fun x3 => CV (sX11_isEmpty E) l0 11 [aI x3] h (kI fun x5 h6 => (¬ x5 = 0 → PX11_loadLayout_130 E post J53 h6 l0 l2 x3) ∧ (x5 = 0 → rdP h6 l0 11 0 fun x7 => aldI h6 x7 0 (3 : Int32) fun x8 => ((8 : Int32) ≤ x8 → PX11_loadLayout_130 E post J53 h6 l0 l2 x3) ∧ (¬ (8 : Int32) ≤ x8 → CS (sX11_slotAt E) [aI x3] h6 (kI fun x9 h10 => rdP h10 l0 11 23 fun x11 => aldI h10 x11 0 (((3 : Int32) * l2) + (1 : Int32)) fun x12 => rdP h10 l0 11 23 fun x13 => aldI h10 x13 0 (((3 : Int32) * l2) + (2 : Int32)) fun x14 => CV (sX11_fits E) l0 11 [aI x9, aI x12, aI x14, aI (-1000009 : Int32)] h10 (kI fun x15 h16 => (x15 = 0 → PX11_loadLayout_130 E post J53 h16 l0 l2 x3) ∧ (¬ x15 = 0 → PX11_loadLayout_131 E post J53 h16 l0 l2 x3 (1 : Int32)))))))))
theorem bX11_loadLayout_53 {E : EV} {X : AX} {post : Option AV → AH → Prop} (C : Cb E X cX11_loadLayout RX11 5 rmX11_loadLayout) (D : Cr E X (some .int) rmX11_loadLayout "loadLayout" post) {J53 : AH → Option Nat → Int32 → Int32 → Prop} (g53 : ∀ (h : AH) (l0 : Option Nat) (l1 : Int32) (l2 : Int32), J53 h l0 l1 l2 → Go E X 5 0 0 53 [(0, aP l0), (1, aI l1), (2, aI l2)] [] h) {h : AH} {l0 : Option Nat} {l1 : Int32} {l2 : Int32} (w : PX11_loadLayout_53 E post J53 h l0 l1 l2) : Go E X 5 0 0 53 [(0, aP l0), (1, aI l1), (2, aI l2)] [] h := by
  unfold PX11_loadLayout_53 at w
  refine r_iload_n C dX11_loadLayout_53 rfl 2 rfl ?_
  refine r_aload_n C dX11_loadLayout_54 rfl 0 rfl ?_
  refine r_getI C fcX11 (f := 24) (by decide) rfl k967 dX11_loadLayout_55 (w.mono fun x1 w => ?_)
  refine r_icmp_ge C dX11_loadLayout_58 (tgt := 184) rfl (fun hc => ?_) (fun hc => ?_)
  · have w := w.1 hc
    exact r_sub [0, 1] rfl (bX11_loadLayout_184 C D w)
  · have w := w.2 hc
    refine r_iload_n C dX11_loadLayout_61 rfl 1 rfl ?_
    refine r_if_eq C dX11_loadLayout_62 (tgt := 184) rfl (fun hc => ?_) (fun hc => ?_)
    · have w := w.1 hc
      exact r_sub [0, 1] rfl (bX11_loadLayout_184 C D w)
    · have w := w.2 hc
      refine r_aload_n C dX11_loadLayout_65 rfl 0 rfl ?_
      refine r_getP C fcX11 (f := 23) (by decide) rfl k966 dX11_loadLayout_66 (w.mono fun x2 w => ?_)
      refine r_iconst (v := 3) C dX11_loadLayout_69 rfl ?_
      refine r_iload_n C dX11_loadLayout_70 rfl 2 rfl ?_
      refine r_imul C dX11_loadLayout_71 ?_
      refine r_iald C dX11_loadLayout_72 (w.mono fun x3 w => ?_)
      refine r_istore_n C dX11_loadLayout_73 rfl (by decide) rfl ?_
      refine r_aload_n C dX11_loadLayout_74 rfl 1 rfl ?_
      refine r_iload_n C dX11_loadLayout_75 rfl 0 rfl ?_
      refine r_cvI (rm' := rmX11_isEmpty) C mX11_isEmpty vX11_isEmpty k1111 [aI x3] [] rfl rfl (Nat.le_of_ble_eq_true rfl) (by decide) ⟨Nat.zero_le _, Nat.zero_le _⟩ 0 0 rfl rfl dX11_loadLayout_76 w (fun x5 h6 w => ?_)
      refine r_if_ne C dX11_loadLayout_79 (tgt := 130) rfl (fun hc => ?_) (fun hc => ?_)
      · have w := w.1 hc
        exact r_sub [1, 3, 0] rfl (bX11_loadLayout_130 C D g53 w)
      · have w := w.2 hc
        refine r_aload_n C dX11_loadLayout_82 rfl 1 rfl ?_
        refine r_getP C fcX11 (f := 0) (by decide) rfl k943 dX11_loadLayout_83 (w.mono fun x7 w => ?_)
        refine r_iconst (v := 3) C dX11_loadLayout_86 rfl ?_
        refine r_iald C dX11_loadLayout_87 (w.mono fun x8 w => ?_)
        refine r_bipush (v := 8) C dX11_loadLayout_88 rfl ?_
        refine r_icmp_ge C dX11_loadLayout_90 (tgt := 130) rfl (fun hc => ?_) (fun hc => ?_)
        · have w := w.1 hc
          exact r_sub [1, 3, 0] rfl (bX11_loadLayout_130 C D g53 w)
        · have w := w.2 hc
          refine r_aload_n C dX11_loadLayout_93 rfl 1 rfl ?_
          refine r_iload_n C dX11_loadLayout_94 rfl 0 rfl ?_
          refine r_csI (rm' := rmX11_slotAt) C mX11_slotAt vX11_slotAt k1100 [aI x3] [aP l0] rfl rfl (Nat.le_of_ble_eq_true rfl) (by decide) ⟨Nat.zero_le _, Nat.zero_le _⟩ 0 0 rfl rfl dX11_loadLayout_95 w (fun x9 h10 w => ?_)
          refine r_aload_n C dX11_loadLayout_98 rfl 1 rfl ?_
          refine r_getP C fcX11 (f := 23) (by decide) rfl k966 dX11_loadLayout_99 (w.mono fun x11 w => ?_)
          refine r_iconst (v := 3) C dX11_loadLayout_102 rfl ?_
          refine r_iload_n C dX11_loadLayout_103 rfl 3 rfl ?_
          refine r_imul C dX11_loadLayout_104 ?_
          refine r_iconst (v := 1) C dX11_loadLayout_105 rfl ?_
          refine r_iadd C dX11_loadLayout_106 ?_
          refine r_iald C dX11_loadLayout_107 (w.mono fun x12 w => ?_)
          refine r_aload_n C dX11_loadLayout_108 rfl 1 rfl ?_
          refine r_getP C fcX11 (f := 23) (by decide) rfl k966 dX11_loadLayout_109 (w.mono fun x13 w => ?_)
          refine r_iconst (v := 3) C dX11_loadLayout_112 rfl ?_
          refine r_iload_n C dX11_loadLayout_113 rfl 3 rfl ?_
          refine r_imul C dX11_loadLayout_114 ?_
          refine r_iconst (v := 2) C dX11_loadLayout_115 rfl ?_
          refine r_iadd C dX11_loadLayout_116 ?_
          refine r_iald C dX11_loadLayout_117 (w.mono fun x14 w => ?_)
          refine r_ldc (v := -1000009) C dX11_loadLayout_118 k1170 ?_
          refine r_cvI (rm' := rmX11_fits) C mX11_fits vX11_fits k1300 [aI x9, aI x12, aI x14, aI (-1000009 : Int32)] [] rfl rfl (Nat.le_of_ble_eq_true rfl) (by decide) ⟨Nat.zero_le _, Nat.zero_le _⟩ 0 0 rfl rfl dX11_loadLayout_120 w (fun x15 h16 w => ?_)
          refine r_if_eq C dX11_loadLayout_123 (tgt := 130) rfl (fun hc => ?_) (fun hc => ?_)
          · have w := w.1 hc
            exact r_sub [1, 3, 0] rfl (bX11_loadLayout_130 C D g53 w)
          · have w := w.2 hc
            refine r_iconst (v := 1) C dX11_loadLayout_126 rfl ?_
            refine r_goto C dX11_loadLayout_127 (tgt := 131) rfl ?_
            exact r_sub [1, 3, 0] rfl (bX11_loadLayout_131 C D g53 w)
theorem lpX11_loadLayout_53 {E : EV} {X : AX} {post : Option AV → AH → Prop} (C : Cb E X cX11_loadLayout RX11 5 rmX11_loadLayout) (D : Cr E X (some .int) rmX11_loadLayout "loadLayout" post) (I : Nat → AH → Option Nat → Int32 → Int32 → Prop) (step : ∀ (z : Nat) (h : AH) (l0 : Option Nat) (l1 : Int32) (l2 : Int32), I z h l0 l1 l2 → PX11_loadLayout_53 E post (fun h l0 l1 l2 => ∃ z', z' < z ∧ I z' h l0 l1 l2) h l0 l1 l2) : ∀ (z : Nat) (h : AH) (l0 : Option Nat) (l1 : Int32) (l2 : Int32), I z h l0 l1 l2 → Go E X 5 0 0 53 [(0, aP l0), (1, aI l1), (2, aI l2)] [] h := by
  intro z
  induction z using Nat.strongRecOn with
  | _ z ih =>
    intro h l0 l1 l2 hI
    exact bX11_loadLayout_53 C D (fun h l0 l1 l2 hJ => by obtain ⟨z', hz, hi⟩ := hJ; exact ih z' hz h l0 l1 l2 hi) (step z h l0 l1 l2 hI)
def PX11_loadLayout_17 (E : EV) (post : Option AV → AH → Prop) (J17 : AH → Option Nat → Int32 → Prop) (J53 : AH → Option Nat → Int32 → Int32 → Prop) (h : AH) (l0 : Option Nat) (l1 : Int32) : Prop :=
  ((500 : Int32) ≤ l1 → rdP h l0 11 0 fun x1 => astI h x1 0 (3 : Int32) (0 : Int32) fun h2 => J53 h2 l0 (1 : Int32) (0 : Int32)) ∧ (¬ (500 : Int32) ≤ l1 → rdP h l0 11 25 fun x1 => rdP h l0 11 0 fun x2 => aldI h x2 0 l1 fun x3 => astI h x1 0 l1 x3 fun h4 => J17 h4 l0 (l1 + (1 : Int32)))
theorem bX11_loadLayout_17 {E : EV} {X : AX} {post : Option AV → AH → Prop} (C : Cb E X cX11_loadLayout RX11 5 rmX11_loadLayout) (D : Cr E X (some .int) rmX11_loadLayout "loadLayout" post) {J17 : AH → Option Nat → Int32 → Prop} (g17 : ∀ (h : AH) (l0 : Option Nat) (l1 : Int32), J17 h l0 l1 → Go E X 5 0 0 17 [(0, aP l0), (1, aI l1)] [] h) {J53 : AH → Option Nat → Int32 → Int32 → Prop} (g53 : ∀ (h : AH) (l0 : Option Nat) (l1 : Int32) (l2 : Int32), J53 h l0 l1 l2 → Go E X 5 0 0 53 [(0, aP l0), (1, aI l1), (2, aI l2)] [] h) {h : AH} {l0 : Option Nat} {l1 : Int32} (w : PX11_loadLayout_17 E post J17 J53 h l0 l1) : Go E X 5 0 0 17 [(0, aP l0), (1, aI l1)] [] h := by
  unfold PX11_loadLayout_17 at w
  refine r_iload_n C dX11_loadLayout_17 rfl 1 rfl ?_
  refine r_sipush (v := 500) C dX11_loadLayout_18 rfl ?_
  refine r_icmp_ge C dX11_loadLayout_21 (tgt := 42) rfl (fun hc => ?_) (fun hc => ?_)
  · have w := w.1 hc
    refine r_aload_n C dX11_loadLayout_42 rfl 0 rfl ?_
    refine r_getP C fcX11 (f := 0) (by decide) rfl k943 dX11_loadLayout_43 (w.mono fun x1 w => ?_)
    refine r_iconst (v := 3) C dX11_loadLayout_46 rfl ?_
    refine r_iconst (v := 0) C dX11_loadLayout_47 rfl ?_
    refine r_iast C dX11_loadLayout_48 (w.mono fun h2 w => ?_)
    refine r_iconst (v := 1) C dX11_loadLayout_49 rfl ?_
    refine r_istore_n C dX11_loadLayout_50 rfl (by decide) rfl ?_
    refine r_iconst (v := 0) C dX11_loadLayout_51 rfl ?_
    refine r_istore_n C dX11_loadLayout_52 rfl (by decide) rfl ?_
    exact r_sub [2, 1, 0] rfl (g53 h2 l0 (1 : Int32) (0 : Int32) w)
  · have w := w.2 hc
    refine r_aload_n C dX11_loadLayout_24 rfl 0 rfl ?_
    refine r_getP C fcX11 (f := 25) (by decide) rfl k968 dX11_loadLayout_25 (w.mono fun x1 w => ?_)
    refine r_iload_n C dX11_loadLayout_28 rfl 1 rfl ?_
    refine r_aload_n C dX11_loadLayout_29 rfl 0 rfl ?_
    refine r_getP C fcX11 (f := 0) (by decide) rfl k943 dX11_loadLayout_30 (w.mono fun x2 w => ?_)
    refine r_iload_n C dX11_loadLayout_33 rfl 1 rfl ?_
    refine r_iald C dX11_loadLayout_34 (w.mono fun x3 w => ?_)
    refine r_iast C dX11_loadLayout_35 (w.mono fun h4 w => ?_)
    refine r_iinc C dX11_loadLayout_36 1 rfl (v := 1) rfl (by decide) rfl ?_
    refine r_goto C dX11_loadLayout_39 (tgt := 17) rfl ?_
    exact r_sub [1, 0] rfl (g17 h4 l0 (l1 + (1 : Int32)) w)
theorem lpX11_loadLayout_17 {E : EV} {X : AX} {post : Option AV → AH → Prop} (C : Cb E X cX11_loadLayout RX11 5 rmX11_loadLayout) (D : Cr E X (some .int) rmX11_loadLayout "loadLayout" post) {J53 : AH → Option Nat → Int32 → Int32 → Prop} (g53 : ∀ (h : AH) (l0 : Option Nat) (l1 : Int32) (l2 : Int32), J53 h l0 l1 l2 → Go E X 5 0 0 53 [(0, aP l0), (1, aI l1), (2, aI l2)] [] h) (I : Nat → AH → Option Nat → Int32 → Prop) (step : ∀ (z : Nat) (h : AH) (l0 : Option Nat) (l1 : Int32), I z h l0 l1 → PX11_loadLayout_17 E post (fun h l0 l1 => ∃ z', z' < z ∧ I z' h l0 l1) J53 h l0 l1) : ∀ (z : Nat) (h : AH) (l0 : Option Nat) (l1 : Int32), I z h l0 l1 → Go E X 5 0 0 17 [(0, aP l0), (1, aI l1)] [] h := by
  intro z
  induction z using Nat.strongRecOn with
  | _ z ih =>
    intro h l0 l1 hI
    exact bX11_loadLayout_17 C D (fun h l0 l1 hJ => by obtain ⟨z', hz, hi⟩ := hJ; exact ih z' hz h l0 l1 hi) g53 (step z h l0 l1 hI)
def PX11_loadLayout_0 (E : EV) (post : Option AV → AH → Prop) (J17 : AH → Option Nat → Int32 → Prop) (h : AH) (l0 : Option Nat) : Prop :=
  CV (sX11_readsLayout E) l0 11 [] h (kI fun x1 h2 => (¬ x1 = 0 → J17 h2 l0 (0 : Int32)) ∧ (x1 = 0 → rdI h2 l0 11 13 fun x3 => post (some (aI ((-10 : Int32) - x3))) h2))
theorem bX11_loadLayout_0 {E : EV} {X : AX} {post : Option AV → AH → Prop} (C : Cb E X cX11_loadLayout RX11 5 rmX11_loadLayout) (D : Cr E X (some .int) rmX11_loadLayout "loadLayout" post) {J17 : AH → Option Nat → Int32 → Prop} (g17 : ∀ (h : AH) (l0 : Option Nat) (l1 : Int32), J17 h l0 l1 → Go E X 5 0 0 17 [(0, aP l0), (1, aI l1)] [] h) {h : AH} {l0 : Option Nat} (w : PX11_loadLayout_0 E post J17 h l0) : Go E X 5 0 0 0 [(0, aP l0)] [] h := by
  unfold PX11_loadLayout_0 at w
  refine r_aload_n C dX11_loadLayout_0 rfl 0 rfl ?_
  refine r_cvI (rm' := rmX11_readsLayout) C mX11_readsLayout vX11_readsLayout k1333 [] [] rfl rfl (Nat.le_of_ble_eq_true rfl) (by decide) ⟨Nat.zero_le _, Nat.zero_le _⟩ 0 0 rfl rfl dX11_loadLayout_1 w (fun x1 h2 w => ?_)
  refine r_if_ne C dX11_loadLayout_4 (tgt := 15) rfl (fun hc => ?_) (fun hc => ?_)
  · have w := w.1 hc
    refine r_iconst (v := 0) C dX11_loadLayout_15 rfl ?_
    refine r_istore_n C dX11_loadLayout_16 rfl (by decide) rfl ?_
    exact r_sub [1, 0] rfl (g17 h2 l0 (0 : Int32) w)
  · have w := w.2 hc
    refine r_bipush (v := -10) C dX11_loadLayout_7 rfl ?_
    refine r_aload_n C dX11_loadLayout_9 rfl 0 rfl ?_
    refine r_getI C fcX11 (f := 13) (by decide) rfl k956 dX11_loadLayout_10 (w.mono fun x3 w => ?_)
    refine r_isub C dX11_loadLayout_13 ?_
    exact r_iret C D rfl (Nat.zero_le _) (Nat.zero_le _) dX11_loadLayout_14 w
theorem eX11_loadLayout {E : EV} {post : Option AV → AH → Prop} {h : AH} {l0 : Option Nat} {J17 : AH → Option Nat → Int32 → Prop} (g17 : ∀ X : AX, Cb E X cX11_loadLayout RX11 5 rmX11_loadLayout → Cr E X (some .int) rmX11_loadLayout "loadLayout" post → ∀ (h : AH) (l0 : Option Nat) (l1 : Int32), J17 h l0 l1 → Go E X 5 0 0 17 [(0, aP l0), (1, aI l1)] [] h) (w : PX11_loadLayout_0 E post J17 h l0) : sX11_loadLayout E [aP l0] h post := Spec.of RX11 rfl rfl (Nat.le_of_ble_eq_true rfl) fun X C D => bX11_loadLayout_0 C D (g17 X C D) w
theorem dX11_number_0 : decode cX11_number 0 = .ok (.aload_n 0, 1) := by decide +kernel
theorem dX11_number_1 : decode cX11_number 1 = .ok (.invokevirtual 161, 3) := by decide +kernel
theorem dX11_number_4 : decode cX11_number 4 = .ok (.aload_n 0, 1) := by decide +kernel
theorem dX11_number_5 : decode cX11_number 5 = .ok (.getfield 157, 3) := by decide +kernel
theorem dX11_number_8 : decode cX11_number 8 = .ok (.ifCond .ne 16, 3) := by decide +kernel
theorem dX11_number_11 : decode cX11_number 11 = .ok (.aload_n 0, 1) := by decide +kernel
theorem dX11_number_12 : decode cX11_number 12 = .ok (.invokevirtual 153, 3) := by decide +kernel
theorem dX11_number_15 : decode cX11_number 15 = .ok (.bipush 45, 2) := by decide +kernel
theorem dX11_number_17 : decode cX11_number 17 = .ok (.if_icmp .ne 7, 3) := by decide +kernel
theorem dX11_number_20 : decode cX11_number 20 = .ok (.iconst 1, 1) := by decide +kernel
theorem dX11_number_21 : decode cX11_number 21 = .ok (.goto 4, 3) := by decide +kernel
theorem dX11_number_24 : decode cX11_number 24 = .ok (.iconst 0, 1) := by decide +kernel
theorem dX11_number_25 : decode cX11_number 25 = .ok (.istore_n 1, 1) := by decide +kernel
theorem dX11_number_26 : decode cX11_number 26 = .ok (.aload_n 0, 1) := by decide +kernel
theorem dX11_number_27 : decode cX11_number 27 = .ok (.dup, 1) := by decide +kernel
theorem dX11_number_28 : decode cX11_number 28 = .ok (.getfield 150, 3) := by decide +kernel
theorem dX11_number_31 : decode cX11_number 31 = .ok (.iload_n 1, 1) := by decide +kernel
theorem dX11_number_32 : decode cX11_number 32 = .ok (.ifCond .eq 7, 3) := by decide +kernel
theorem dX11_number_35 : decode cX11_number 35 = .ok (.iconst 1, 1) := by decide +kernel
theorem dX11_number_36 : decode cX11_number 36 = .ok (.goto 4, 3) := by decide +kernel
theorem dX11_number_39 : decode cX11_number 39 = .ok (.iconst 0, 1) := by decide +kernel
theorem dX11_number_40 : decode cX11_number 40 = .ok (.iadd, 1) := by decide +kernel
theorem dX11_number_41 : decode cX11_number 41 = .ok (.putfield 150, 3) := by decide +kernel
theorem dX11_number_44 : decode cX11_number 44 = .ok (.aload_n 0, 1) := by decide +kernel
theorem dX11_number_45 : decode cX11_number 45 = .ok (.getfield 157, 3) := by decide +kernel
theorem dX11_number_48 : decode cX11_number 48 = .ok (.ifCond .ne 7, 3) := by decide +kernel
theorem dX11_number_51 : decode cX11_number 51 = .ok (.aload_n 0, 1) := by decide +kernel
theorem dX11_number_52 : decode cX11_number 52 = .ok (.invokevirtual 161, 3) := by decide +kernel
theorem dX11_number_55 : decode cX11_number 55 = .ok (.aload_n 0, 1) := by decide +kernel
theorem dX11_number_56 : decode cX11_number 56 = .ok (.aload_n 0, 1) := by decide +kernel
theorem dX11_number_57 : decode cX11_number 57 = .ok (.getfield 157, 3) := by decide +kernel
theorem dX11_number_60 : decode cX11_number 60 = .ok (.ifCond .ne 10, 3) := by decide +kernel
theorem dX11_number_63 : decode cX11_number 63 = .ok (.aload_n 0, 1) := by decide +kernel
theorem dX11_number_64 : decode cX11_number 64 = .ok (.invokevirtual 164, 3) := by decide +kernel
theorem dX11_number_67 : decode cX11_number 67 = .ok (.ifCond .ne 7, 3) := by decide +kernel
theorem dX11_number_70 : decode cX11_number 70 = .ok (.iconst 1, 1) := by decide +kernel
theorem dX11_number_71 : decode cX11_number 71 = .ok (.goto 4, 3) := by decide +kernel
theorem dX11_number_74 : decode cX11_number 74 = .ok (.iconst 0, 1) := by decide +kernel
theorem dX11_number_75 : decode cX11_number 75 = .ok (.putfield 157, 3) := by decide +kernel
theorem dX11_number_78 : decode cX11_number 78 = .ok (.aload_n 0, 1) := by decide +kernel
theorem dX11_number_79 : decode cX11_number 79 = .ok (.getfield 157, 3) := by decide +kernel
theorem dX11_number_82 : decode cX11_number 82 = .ok (.ifCond .eq 7, 3) := by decide +kernel
theorem dX11_number_85 : decode cX11_number 85 = .ok (.iconst 0, 1) := by decide +kernel
theorem dX11_number_86 : decode cX11_number 86 = .ok (.goto 10, 3) := by decide +kernel
theorem dX11_number_89 : decode cX11_number 89 = .ok (.aload_n 0, 1) := by decide +kernel
theorem dX11_number_90 : decode cX11_number 90 = .ok (.invokevirtual 153, 3) := by decide +kernel
theorem dX11_number_93 : decode cX11_number 93 = .ok (.bipush 48, 2) := by decide +kernel
theorem dX11_number_95 : decode cX11_number 95 = .ok (.isub, 1) := by decide +kernel
theorem dX11_number_96 : decode cX11_number 96 = .ok (.istore_n 2, 1) := by decide +kernel
theorem dX11_number_97 : decode cX11_number 97 = .ok (.aload_n 0, 1) := by decide +kernel
theorem dX11_number_98 : decode cX11_number 98 = .ok (.dup, 1) := by decide +kernel
theorem dX11_number_99 : decode cX11_number 99 = .ok (.getfield 150, 3) := by decide +kernel
theorem dX11_number_102 : decode cX11_number 102 = .ok (.aload_n 0, 1) := by decide +kernel
theorem dX11_number_103 : decode cX11_number 103 = .ok (.getfield 157, 3) := by decide +kernel
theorem dX11_number_106 : decode cX11_number 106 = .ok (.ifCond .eq 7, 3) := by decide +kernel
theorem dX11_number_109 : decode cX11_number 109 = .ok (.iconst 0, 1) := by decide +kernel
theorem dX11_number_110 : decode cX11_number 110 = .ok (.goto 4, 3) := by decide +kernel
theorem dX11_number_113 : decode cX11_number 113 = .ok (.iconst 1, 1) := by decide +kernel
theorem dX11_number_114 : decode cX11_number 114 = .ok (.iadd, 1) := by decide +kernel
theorem dX11_number_115 : decode cX11_number 115 = .ok (.putfield 150, 3) := by decide +kernel
theorem dX11_number_118 : decode cX11_number 118 = .ok (.iload_n 1, 1) := by decide +kernel
theorem dX11_number_119 : decode cX11_number 119 = .ok (.ifCond .eq 8, 3) := by decide +kernel
theorem dX11_number_122 : decode cX11_number 122 = .ok (.iload_n 2, 1) := by decide +kernel
theorem dX11_number_123 : decode cX11_number 123 = .ok (.ineg, 1) := by decide +kernel
theorem dX11_number_124 : decode cX11_number 124 = .ok (.goto 4, 3) := by decide +kernel
theorem dX11_number_127 : decode cX11_number 127 = .ok (.iload_n 2, 1) := by decide +kernel
theorem dX11_number_128 : decode cX11_number 128 = .ok (.ireturn, 1) := by decide +kernel
abbrev rmX11_number : Room := { frames := 2, cells := 0, slots := 0, locals := 80 }
abbrev sX11_number (E : EV) : List AV → AH → (Option AV → AH → Prop) → Prop := Spec E yX11_number cX11_number 3 (some .int) rmX11_number
theorem mX11_number : Mt yX11_number cX11_number 3 (some .int) 0 := ⟨k1087, k12, by decide +kernel⟩
theorem vX11_number : MtV yX11_number 11 := ⟨k1086, kp37, by decide, (RX11, TX11, 26), rfl, rfl⟩
def PX11_number_114 (E : EV) (post : Option AV → AH → Prop) (h : AH) (l1 : Int32) (l2 : Int32) (s0 : Option Nat) (s1 : Int32) (s2 : Int32) : Prop :=
  wr h s0 11 13 (aI (s1 + s2)) fun h1 => (l1 = 0 → post (some (aI l2)) h1) ∧ (¬ l1 = 0 → post (some (aI (-l2))) h1)
theorem bX11_number_114 {E : EV} {X : AX} {post : Option AV → AH → Prop} (C : Cb E X cX11_number RX11 3 rmX11_number) (D : Cr E X (some .int) rmX11_number "number" post) {h : AH} {l1 : Int32} {l2 : Int32} {s0 : Option Nat} {s1 : Int32} {s2 : Int32} (w : PX11_number_114 E post h l1 l2 s0 s1 s2) : Go E X 3 0 0 114 [(1, aI l1), (2, aI l2)] [aI s2, aI s1, aP s0] h := by
  unfold PX11_number_114 at w
  refine r_iadd C dX11_number_114 ?_
  refine r_put C fcX11 (f := 13) (by decide) rfl rfl rfl rfl k956 dX11_number_115 (w.mono fun h1 w => ?_)
  refine r_iload_n C dX11_number_118 rfl 0 rfl ?_
  refine r_if_eq C dX11_number_119 (tgt := 127) rfl (fun hc => ?_) (fun hc => ?_)
  · have w := w.1 hc
    refine r_iload_n C dX11_number_127 rfl 1 rfl ?_
    exact r_iret C D rfl (Nat.zero_le _) (Nat.zero_le _) dX11_number_128 w
  · have w := w.2 hc
    refine r_iload_n C dX11_number_122 rfl 1 rfl ?_
    refine r_ineg C dX11_number_123 ?_
    refine r_goto C dX11_number_124 (tgt := 128) rfl ?_
    exact r_iret C D rfl (Nat.zero_le _) (Nat.zero_le _) dX11_number_128 w
def PX11_number_96 (E : EV) (post : Option AV → AH → Prop) (h : AH) (l0 : Option Nat) (l1 : Int32) (s0 : Int32) : Prop :=
  rdI h l0 11 13 fun x2 => rdI h l0 11 14 fun x3 => (x3 = 0 → PX11_number_114 E post h l1 s0 l0 x2 (1 : Int32)) ∧ (¬ x3 = 0 → PX11_number_114 E post h l1 s0 l0 x2 (0 : Int32))
theorem bX11_number_96 {E : EV} {X : AX} {post : Option AV → AH → Prop} (C : Cb E X cX11_number RX11 3 rmX11_number) (D : Cr E X (some .int) rmX11_number "number" post) {h : AH} {l0 : Option Nat} {l1 : Int32} {s0 : Int32} (w : PX11_number_96 E post h l0 l1 s0) : Go E X 3 0 0 96 [(0, aP l0), (1, aI l1)] [aI s0] h := by
  unfold PX11_number_96 at w
  refine r_istore_n C dX11_number_96 rfl (by decide) rfl ?_
  refine r_aload_n C dX11_number_97 rfl 1 rfl ?_
  refine r_dup C dX11_number_98 rfl ?_
  refine r_getI C fcX11 (f := 13) (by decide) rfl k956 dX11_number_99 (w.mono fun x2 w => ?_)
  refine r_aload_n C dX11_number_102 rfl 1 rfl ?_
  refine r_getI C fcX11 (f := 14) (by decide) rfl k957 dX11_number_103 (w.mono fun x3 w => ?_)
  refine r_if_eq C dX11_number_106 (tgt := 113) rfl (fun hc => ?_) (fun hc => ?_)
  · have w := w.1 hc
    refine r_iconst (v := 1) C dX11_number_113 rfl ?_
    exact r_sub [2, 0] rfl (bX11_number_114 C D w)
  · have w := w.2 hc
    refine r_iconst (v := 0) C dX11_number_109 rfl ?_
    refine r_goto C dX11_number_110 (tgt := 114) rfl ?_
    exact r_sub [2, 0] rfl (bX11_number_114 C D w)
def PX11_number_75 (E : EV) (post : Option AV → AH → Prop) (h : AH) (l0 : Option Nat) (l1 : Int32) (s0 : Option Nat) (s1 : Int32) : Prop :=
  (s1 = 0 ∨ s1 = 1) ∧ wr h s0 11 14 (aI s1) (fun h1 => rdI h1 l0 11 14 fun x2 => (x2 = 0 → CV (sX11_here E) l0 11 [] h1 (kI fun x3 h4 => PX11_number_96 E post h4 l0 l1 (x3 - (48 : Int32)))) ∧ (¬ x2 = 0 → PX11_number_96 E post h1 l0 l1 (0 : Int32)))
theorem bX11_number_75 {E : EV} {X : AX} {post : Option AV → AH → Prop} (C : Cb E X cX11_number RX11 3 rmX11_number) (D : Cr E X (some .int) rmX11_number "number" post) {h : AH} {l0 : Option Nat} {l1 : Int32} {s0 : Option Nat} {s1 : Int32} (w : PX11_number_75 E post h l0 l1 s0 s1) : Go E X 3 0 0 75 [(0, aP l0), (1, aI l1)] [aI s1, aP s0] h := by
  unfold PX11_number_75 at w
  have hz := w.1
  have w := w.2
  refine r_put C fcX11 (f := 14) (by decide) rfl rfl (nr_Z hz) (ft_Z hz) k957 dX11_number_75 (w.mono fun h1 w => ?_)
  refine r_aload_n C dX11_number_78 rfl 0 rfl ?_
  refine r_getI C fcX11 (f := 14) (by decide) rfl k957 dX11_number_79 (w.mono fun x2 w => ?_)
  refine r_if_eq C dX11_number_82 (tgt := 89) rfl (fun hc => ?_) (fun hc => ?_)
  · have w := w.1 hc
    refine r_aload_n C dX11_number_89 rfl 0 rfl ?_
    refine r_cvI (rm' := rmX11_here) C mX11_here vX11_here k1060 [] [] rfl rfl (Nat.le_of_ble_eq_true rfl) (by decide) ⟨Nat.zero_le _, Nat.zero_le _⟩ 0 0 rfl rfl dX11_number_90 w (fun x3 h4 w => ?_)
    refine r_bipush (v := 48) C dX11_number_93 rfl ?_
    refine r_isub C dX11_number_95 ?_
    exact (bX11_number_96 C D w)
  · have w := w.2 hc
    refine r_iconst (v := 0) C dX11_number_85 rfl ?_
    refine r_goto C dX11_number_86 (tgt := 96) rfl ?_
    exact (bX11_number_96 C D w)
def PX11_number_70 (E : EV) (post : Option AV → AH → Prop) (h : AH) (l0 : Option Nat) (l1 : Int32) (s0 : Option Nat) : Prop :=
  PX11_number_75 E post h l0 l1 s0 (1 : Int32)
theorem bX11_number_70 {E : EV} {X : AX} {post : Option AV → AH → Prop} (C : Cb E X cX11_number RX11 3 rmX11_number) (D : Cr E X (some .int) rmX11_number "number" post) {h : AH} {l0 : Option Nat} {l1 : Int32} {s0 : Option Nat} (w : PX11_number_70 E post h l0 l1 s0) : Go E X 3 0 0 70 [(0, aP l0), (1, aI l1)] [aP s0] h := by
  unfold PX11_number_70 at w
  refine r_iconst (v := 1) C dX11_number_70 rfl ?_
  refine r_goto C dX11_number_71 (tgt := 75) rfl ?_
  exact (bX11_number_75 C D w)
def PX11_number_55 (E : EV) (post : Option AV → AH → Prop) (h : AH) (l0 : Option Nat) (l1 : Int32) : Prop :=
  rdI h l0 11 14 fun x1 => (¬ x1 = 0 → PX11_number_70 E post h l0 l1 l0) ∧ (x1 = 0 → CV (sX11_isDigit E) l0 11 [] h (kI fun x2 h3 => (¬ x2 = 0 → PX11_number_75 E post h3 l0 l1 l0 (0 : Int32)) ∧ (x2 = 0 → PX11_number_70 E post h3 l0 l1 l0)))
theorem bX11_number_55 {E : EV} {X : AX} {post : Option AV → AH → Prop} (C : Cb E X cX11_number RX11 3 rmX11_number) (D : Cr E X (some .int) rmX11_number "number" post) {h : AH} {l0 : Option Nat} {l1 : Int32} (w : PX11_number_55 E post h l0 l1) : Go E X 3 0 0 55 [(0, aP l0), (1, aI l1)] [] h := by
  unfold PX11_number_55 at w
  refine r_aload_n C dX11_number_55 rfl 0 rfl ?_
  refine r_aload_n C dX11_number_56 rfl 0 rfl ?_
  refine r_getI C fcX11 (f := 14) (by decide) rfl k957 dX11_number_57 (w.mono fun x1 w => ?_)
  refine r_if_ne C dX11_number_60 (tgt := 70) rfl (fun hc => ?_) (fun hc => ?_)
  · have w := w.1 hc
    exact (bX11_number_70 C D w)
  · have w := w.2 hc
    refine r_aload_n C dX11_number_63 rfl 0 rfl ?_
    refine r_cvI (rm' := rmX11_isDigit) C mX11_isDigit vX11_isDigit k1088 [] [aP l0] rfl rfl (Nat.le_of_ble_eq_true rfl) (by decide) ⟨Nat.zero_le _, Nat.zero_le _⟩ 0 0 rfl rfl dX11_number_64 w (fun x2 h3 w => ?_)
    refine r_if_ne C dX11_number_67 (tgt := 74) rfl (fun hc => ?_) (fun hc => ?_)
    · have w := w.1 hc
      refine r_iconst (v := 0) C dX11_number_74 rfl ?_
      exact (bX11_number_75 C D w)
    · have w := w.2 hc
      exact (bX11_number_70 C D w)
def PX11_number_40 (E : EV) (post : Option AV → AH → Prop) (h : AH) (l0 : Option Nat) (l1 : Int32) (s0 : Option Nat) (s1 : Int32) (s2 : Int32) : Prop :=
  wr h s0 11 13 (aI (s1 + s2)) fun h1 => rdI h1 l0 11 14 fun x2 => (¬ x2 = 0 → PX11_number_55 E post h1 l0 l1) ∧ (x2 = 0 → CV (sX11_skip E) l0 11 [] h1 (kV fun h4 => PX11_number_55 E post h4 l0 l1))
theorem bX11_number_40 {E : EV} {X : AX} {post : Option AV → AH → Prop} (C : Cb E X cX11_number RX11 3 rmX11_number) (D : Cr E X (some .int) rmX11_number "number" post) {h : AH} {l0 : Option Nat} {l1 : Int32} {s0 : Option Nat} {s1 : Int32} {s2 : Int32} (w : PX11_number_40 E post h l0 l1 s0 s1 s2) : Go E X 3 0 0 40 [(0, aP l0), (1, aI l1)] [aI s2, aI s1, aP s0] h := by
  unfold PX11_number_40 at w
  refine r_iadd C dX11_number_40 ?_
  refine r_put C fcX11 (f := 13) (by decide) rfl rfl rfl rfl k956 dX11_number_41 (w.mono fun h1 w => ?_)
  refine r_aload_n C dX11_number_44 rfl 0 rfl ?_
  refine r_getI C fcX11 (f := 14) (by decide) rfl k957 dX11_number_45 (w.mono fun x2 w => ?_)
  refine r_if_ne C dX11_number_48 (tgt := 55) rfl (fun hc => ?_) (fun hc => ?_)
  · have w := w.1 hc
    exact (bX11_number_55 C D w)
  · have w := w.2 hc
    refine r_aload_n C dX11_number_51 rfl 0 rfl ?_
    refine r_cvV (rm' := rmX11_skip) C mX11_skip vX11_skip k1056 [] [] rfl rfl (Nat.le_of_ble_eq_true rfl) (by decide) ⟨Nat.zero_le _, Nat.zero_le _⟩ 0 0 rfl rfl dX11_number_52 w (fun h4 w => ?_)
    exact (bX11_number_55 C D w)
def PX11_number_25 (E : EV) (post : Option AV → AH → Prop) (h : AH) (l0 : Option Nat) (s0 : Int32) : Prop :=
  rdI h l0 11 13 fun x2 => (s0 = 0 → PX11_number_40 E post h l0 s0 l0 x2 (0 : Int32)) ∧ (¬ s0 = 0 → PX11_number_40 E post h l0 s0 l0 x2 (1 : Int32))
theorem bX11_number_25 {E : EV} {X : AX} {post : Option AV → AH → Prop} (C : Cb E X cX11_number RX11 3 rmX11_number) (D : Cr E X (some .int) rmX11_number "number" post) {h : AH} {l0 : Option Nat} {s0 : Int32} (w : PX11_number_25 E post h l0 s0) : Go E X 3 0 0 25 [(0, aP l0)] [aI s0] h := by
  unfold PX11_number_25 at w
  refine r_istore_n C dX11_number_25 rfl (by decide) rfl ?_
  refine r_aload_n C dX11_number_26 rfl 1 rfl ?_
  refine r_dup C dX11_number_27 rfl ?_
  refine r_getI C fcX11 (f := 13) (by decide) rfl k956 dX11_number_28 (w.mono fun x2 w => ?_)
  refine r_iload_n C dX11_number_31 rfl 0 rfl ?_
  refine r_if_eq C dX11_number_32 (tgt := 39) rfl (fun hc => ?_) (fun hc => ?_)
  · have w := w.1 hc
    refine r_iconst (v := 0) C dX11_number_39 rfl ?_
    exact r_sub [1, 0] rfl (bX11_number_40 C D w)
  · have w := w.2 hc
    refine r_iconst (v := 1) C dX11_number_35 rfl ?_
    refine r_goto C dX11_number_36 (tgt := 40) rfl ?_
    exact r_sub [1, 0] rfl (bX11_number_40 C D w)
def PX11_number_24 (E : EV) (post : Option AV → AH → Prop) (h : AH) (l0 : Option Nat) : Prop :=
  PX11_number_25 E post h l0 (0 : Int32)
theorem bX11_number_24 {E : EV} {X : AX} {post : Option AV → AH → Prop} (C : Cb E X cX11_number RX11 3 rmX11_number) (D : Cr E X (some .int) rmX11_number "number" post) {h : AH} {l0 : Option Nat} (w : PX11_number_24 E post h l0) : Go E X 3 0 0 24 [(0, aP l0)] [] h := by
  unfold PX11_number_24 at w
  refine r_iconst (v := 0) C dX11_number_24 rfl ?_
  exact (bX11_number_25 C D w)
def PX11_number_0 (E : EV) (post : Option AV → AH → Prop) (h : AH) (l0 : Option Nat) : Prop :=
  CV (sX11_skip E) l0 11 [] h (kV fun h2 => rdI h2 l0 11 14 fun x3 => (¬ x3 = 0 → PX11_number_24 E post h2 l0) ∧ (x3 = 0 → CV (sX11_here E) l0 11 [] h2 (kI fun x4 h5 => (¬ x4 = (45 : Int32) → PX11_number_24 E post h5 l0) ∧ (x4 = (45 : Int32) → PX11_number_25 E post h5 l0 (1 : Int32)))))
theorem bX11_number_0 {E : EV} {X : AX} {post : Option AV → AH → Prop} (C : Cb E X cX11_number RX11 3 rmX11_number) (D : Cr E X (some .int) rmX11_number "number" post) {h : AH} {l0 : Option Nat} (w : PX11_number_0 E post h l0) : Go E X 3 0 0 0 [(0, aP l0)] [] h := by
  unfold PX11_number_0 at w
  refine r_aload_n C dX11_number_0 rfl 0 rfl ?_
  refine r_cvV (rm' := rmX11_skip) C mX11_skip vX11_skip k1056 [] [] rfl rfl (Nat.le_of_ble_eq_true rfl) (by decide) ⟨Nat.zero_le _, Nat.zero_le _⟩ 0 0 rfl rfl dX11_number_1 w (fun h2 w => ?_)
  refine r_aload_n C dX11_number_4 rfl 0 rfl ?_
  refine r_getI C fcX11 (f := 14) (by decide) rfl k957 dX11_number_5 (w.mono fun x3 w => ?_)
  refine r_if_ne C dX11_number_8 (tgt := 24) rfl (fun hc => ?_) (fun hc => ?_)
  · have w := w.1 hc
    exact (bX11_number_24 C D w)
  · have w := w.2 hc
    refine r_aload_n C dX11_number_11 rfl 0 rfl ?_
    refine r_cvI (rm' := rmX11_here) C mX11_here vX11_here k1060 [] [] rfl rfl (Nat.le_of_ble_eq_true rfl) (by decide) ⟨Nat.zero_le _, Nat.zero_le _⟩ 0 0 rfl rfl dX11_number_12 w (fun x4 h5 w => ?_)
    refine r_bipush (v := 45) C dX11_number_15 rfl ?_
    refine r_icmp_ne C dX11_number_17 (tgt := 24) rfl (fun hc => ?_) (fun hc => ?_)
    · have w := w.1 hc
      exact (bX11_number_24 C D w)
    · have w := w.2 hc
      refine r_iconst (v := 1) C dX11_number_20 rfl ?_
      refine r_goto C dX11_number_21 (tgt := 25) rfl ?_
      exact (bX11_number_25 C D w)
theorem eX11_number {E : EV} {post : Option AV → AH → Prop} {h : AH} {l0 : Option Nat} (w : PX11_number_0 E post h l0) : sX11_number E [aP l0] h post := Spec.of RX11 rfl rfl (Nat.le_of_ble_eq_true rfl) fun X C D => bX11_number_0 C D w
theorem dX11_readsPiece_0 : decode cX11_readsPiece 0 = .ok (.aload_n 0, 1) := by decide +kernel
theorem dX11_readsPiece_1 : decode cX11_readsPiece 1 = .ok (.getfield 7, 3) := by decide +kernel
theorem dX11_readsPiece_4 : decode cX11_readsPiece 4 = .ok (.sipush 500, 3) := by decide +kernel
theorem dX11_readsPiece_7 : decode cX11_readsPiece 7 = .ok (.iaload, 1) := by decide +kernel
theorem dX11_readsPiece_8 : decode cX11_readsPiece 8 = .ok (.istore_n 1, 1) := by decide +kernel
theorem dX11_readsPiece_9 : decode cX11_readsPiece 9 = .ok (.aload_n 0, 1) := by decide +kernel
theorem dX11_readsPiece_10 : decode cX11_readsPiece 10 = .ok (.getfield 7, 3) := by decide +kernel
theorem dX11_readsPiece_13 : decode cX11_readsPiece 13 = .ok (.sipush 501, 3) := by decide +kernel
theorem dX11_readsPiece_16 : decode cX11_readsPiece 16 = .ok (.iload_n 1, 1) := by decide +kernel
theorem dX11_readsPiece_17 : decode cX11_readsPiece 17 = .ok (.iadd, 1) := by decide +kernel
theorem dX11_readsPiece_18 : decode cX11_readsPiece 18 = .ok (.iconst 0, 1) := by decide +kernel
theorem dX11_readsPiece_19 : decode cX11_readsPiece 19 = .ok (.iastore, 1) := by decide +kernel
theorem dX11_readsPiece_20 : decode cX11_readsPiece 20 = .ok (.iconst 0, 1) := by decide +kernel
theorem dX11_readsPiece_21 : decode cX11_readsPiece 21 = .ok (.istore_n 2, 1) := by decide +kernel
theorem dX11_readsPiece_22 : decode cX11_readsPiece 22 = .ok (.aload_n 0, 1) := by decide +kernel
theorem dX11_readsPiece_23 : decode cX11_readsPiece 23 = .ok (.getfield 157, 3) := by decide +kernel
theorem dX11_readsPiece_26 : decode cX11_readsPiece 26 = .ok (.ifCond .ne 179, 3) := by decide +kernel
theorem dX11_readsPiece_29 : decode cX11_readsPiece 29 = .ok (.iload_n 2, 1) := by decide +kernel
theorem dX11_readsPiece_30 : decode cX11_readsPiece 30 = .ok (.ifCond .ne 175, 3) := by decide +kernel
theorem dX11_readsPiece_33 : decode cX11_readsPiece 33 = .ok (.aload_n 0, 1) := by decide +kernel
theorem dX11_readsPiece_34 : decode cX11_readsPiece 34 = .ok (.invokevirtual 161, 3) := by decide +kernel
theorem dX11_readsPiece_37 : decode cX11_readsPiece 37 = .ok (.aload_n 0, 1) := by decide +kernel
theorem dX11_readsPiece_38 : decode cX11_readsPiece 38 = .ok (.getfield 7, 3) := by decide +kernel
theorem dX11_readsPiece_41 : decode cX11_readsPiece 41 = .ok (.sipush 501, 3) := by decide +kernel
theorem dX11_readsPiece_44 : decode cX11_readsPiece 44 = .ok (.iload_n 1, 1) := by decide +kernel
theorem dX11_readsPiece_45 : decode cX11_readsPiece 45 = .ok (.iadd, 1) := by decide +kernel
theorem dX11_readsPiece_46 : decode cX11_readsPiece 46 = .ok (.iaload, 1) := by decide +kernel
theorem dX11_readsPiece_47 : decode cX11_readsPiece 47 = .ok (.istore_n 3, 1) := by decide +kernel
theorem dX11_readsPiece_48 : decode cX11_readsPiece 48 = .ok (.aload_n 0, 1) := by decide +kernel
theorem dX11_readsPiece_49 : decode cX11_readsPiece 49 = .ok (.invokevirtual 153, 3) := by decide +kernel
theorem dX11_readsPiece_52 : decode cX11_readsPiece 52 = .ok (.bipush 59, 2) := by decide +kernel
theorem dX11_readsPiece_54 : decode cX11_readsPiece 54 = .ok (.if_icmp .ne 56, 3) := by decide +kernel
theorem dX11_readsPiece_57 : decode cX11_readsPiece 57 = .ok (.iload_n 3, 1) := by decide +kernel
theorem dX11_readsPiece_58 : decode cX11_readsPiece 58 = .ok (.iconst 2, 1) := by decide +kernel
theorem dX11_readsPiece_59 : decode cX11_readsPiece 59 = .ok (.if_icmp .le 15, 3) := by decide +kernel
theorem dX11_readsPiece_62 : decode cX11_readsPiece 62 = .ok (.aload_n 0, 1) := by decide +kernel
theorem dX11_readsPiece_63 : decode cX11_readsPiece 63 = .ok (.iload_n 1, 1) := by decide +kernel
theorem dX11_readsPiece_64 : decode cX11_readsPiece 64 = .ok (.invokevirtual 168, 3) := by decide +kernel
theorem dX11_readsPiece_67 : decode cX11_readsPiece 67 = .ok (.ifCond .eq 7, 3) := by decide +kernel
theorem dX11_readsPiece_70 : decode cX11_readsPiece 70 = .ok (.iconst 1, 1) := by decide +kernel
theorem dX11_readsPiece_71 : decode cX11_readsPiece 71 = .ok (.goto 4, 3) := by decide +kernel
theorem dX11_readsPiece_74 : decode cX11_readsPiece 74 = .ok (.iconst 0, 1) := by decide +kernel
theorem dX11_readsPiece_75 : decode cX11_readsPiece 75 = .ok (.istore_n 2, 1) := by decide +kernel
theorem dX11_readsPiece_76 : decode cX11_readsPiece 76 = .ok (.aload_n 0, 1) := by decide +kernel
theorem dX11_readsPiece_77 : decode cX11_readsPiece 77 = .ok (.iload_n 2, 1) := by decide +kernel
theorem dX11_readsPiece_78 : decode cX11_readsPiece 78 = .ok (.ifCond .ne 7, 3) := by decide +kernel
theorem dX11_readsPiece_81 : decode cX11_readsPiece 81 = .ok (.iconst 1, 1) := by decide +kernel
theorem dX11_readsPiece_82 : decode cX11_readsPiece 82 = .ok (.goto 4, 3) := by decide +kernel
theorem dX11_readsPiece_85 : decode cX11_readsPiece 85 = .ok (.iconst 0, 1) := by decide +kernel
theorem dX11_readsPiece_86 : decode cX11_readsPiece 86 = .ok (.putfield 157, 3) := by decide +kernel
theorem dX11_readsPiece_89 : decode cX11_readsPiece 89 = .ok (.aload_n 0, 1) := by decide +kernel
theorem dX11_readsPiece_90 : decode cX11_readsPiece 90 = .ok (.dup, 1) := by decide +kernel
theorem dX11_readsPiece_91 : decode cX11_readsPiece 91 = .ok (.getfield 150, 3) := by decide +kernel
theorem dX11_readsPiece_94 : decode cX11_readsPiece 94 = .ok (.iload_n 2, 1) := by decide +kernel
theorem dX11_readsPiece_95 : decode cX11_readsPiece 95 = .ok (.ifCond .eq 7, 3) := by decide +kernel
theorem dX11_readsPiece_98 : decode cX11_readsPiece 98 = .ok (.iconst 1, 1) := by decide +kernel
theorem dX11_readsPiece_99 : decode cX11_readsPiece 99 = .ok (.goto 4, 3) := by decide +kernel
theorem dX11_readsPiece_102 : decode cX11_readsPiece 102 = .ok (.iconst 0, 1) := by decide +kernel
theorem dX11_readsPiece_103 : decode cX11_readsPiece 103 = .ok (.iadd, 1) := by decide +kernel
theorem dX11_readsPiece_104 : decode cX11_readsPiece 104 = .ok (.putfield 150, 3) := by decide +kernel
theorem dX11_readsPiece_107 : decode cX11_readsPiece 107 = .ok (.goto 95, 3) := by decide +kernel
theorem dX11_readsPiece_110 : decode cX11_readsPiece 110 = .ok (.aload_n 0, 1) := by decide +kernel
theorem dX11_readsPiece_111 : decode cX11_readsPiece 111 = .ok (.iload_n 3, 1) := by decide +kernel
theorem dX11_readsPiece_112 : decode cX11_readsPiece 112 = .ok (.bipush 6, 2) := by decide +kernel
theorem dX11_readsPiece_114 : decode cX11_readsPiece 114 = .ok (.if_icmp .ne 7, 3) := by decide +kernel
theorem dX11_readsPiece_117 : decode cX11_readsPiece 117 = .ok (.iconst 1, 1) := by decide +kernel
theorem dX11_readsPiece_118 : decode cX11_readsPiece 118 = .ok (.goto 4, 3) := by decide +kernel
theorem dX11_readsPiece_121 : decode cX11_readsPiece 121 = .ok (.iconst 0, 1) := by decide +kernel
theorem dX11_readsPiece_122 : decode cX11_readsPiece 122 = .ok (.putfield 157, 3) := by decide +kernel
theorem dX11_readsPiece_125 : decode cX11_readsPiece 125 = .ok (.aload_n 0, 1) := by decide +kernel
theorem dX11_readsPiece_126 : decode cX11_readsPiece 126 = .ok (.invokevirtual 172, 3) := by decide +kernel
theorem dX11_readsPiece_129 : decode cX11_readsPiece 129 = .ok (.istore 4, 2) := by decide +kernel
theorem dX11_readsPiece_131 : decode cX11_readsPiece 131 = .ok (.aload_n 0, 1) := by decide +kernel
theorem dX11_readsPiece_132 : decode cX11_readsPiece 132 = .ok (.bipush 44, 2) := by decide +kernel
theorem dX11_readsPiece_134 : decode cX11_readsPiece 134 = .ok (.invokevirtual 175, 3) := by decide +kernel
theorem dX11_readsPiece_137 : decode cX11_readsPiece 137 = .ok (.aload_n 0, 1) := by decide +kernel
theorem dX11_readsPiece_138 : decode cX11_readsPiece 138 = .ok (.invokevirtual 172, 3) := by decide +kernel
theorem dX11_readsPiece_141 : decode cX11_readsPiece 141 = .ok (.istore 5, 2) := by decide +kernel
theorem dX11_readsPiece_143 : decode cX11_readsPiece 143 = .ok (.aload_n 0, 1) := by decide +kernel
theorem dX11_readsPiece_144 : decode cX11_readsPiece 144 = .ok (.getfield 157, 3) := by decide +kernel
theorem dX11_readsPiece_147 : decode cX11_readsPiece 147 = .ok (.ifCond .ne 55, 3) := by decide +kernel
theorem dX11_readsPiece_150 : decode cX11_readsPiece 150 = .ok (.aload_n 0, 1) := by decide +kernel
theorem dX11_readsPiece_151 : decode cX11_readsPiece 151 = .ok (.getfield 7, 3) := by decide +kernel
theorem dX11_readsPiece_154 : decode cX11_readsPiece 154 = .ok (.sipush 504, 3) := by decide +kernel
theorem dX11_readsPiece_157 : decode cX11_readsPiece 157 = .ok (.bipush 12, 2) := by decide +kernel
theorem dX11_readsPiece_159 : decode cX11_readsPiece 159 = .ok (.iload_n 1, 1) := by decide +kernel
theorem dX11_readsPiece_160 : decode cX11_readsPiece 160 = .ok (.imul, 1) := by decide +kernel
theorem dX11_readsPiece_161 : decode cX11_readsPiece 161 = .ok (.iadd, 1) := by decide +kernel
theorem dX11_readsPiece_162 : decode cX11_readsPiece 162 = .ok (.iconst 2, 1) := by decide +kernel
theorem dX11_readsPiece_163 : decode cX11_readsPiece 163 = .ok (.iload_n 3, 1) := by decide +kernel
theorem dX11_readsPiece_164 : decode cX11_readsPiece 164 = .ok (.imul, 1) := by decide +kernel
theorem dX11_readsPiece_165 : decode cX11_readsPiece 165 = .ok (.iadd, 1) := by decide +kernel
theorem dX11_readsPiece_166 : decode cX11_readsPiece 166 = .ok (.iload 4, 2) := by decide +kernel
theorem dX11_readsPiece_168 : decode cX11_readsPiece 168 = .ok (.iastore, 1) := by decide +kernel
theorem dX11_readsPiece_169 : decode cX11_readsPiece 169 = .ok (.aload_n 0, 1) := by decide +kernel
theorem dX11_readsPiece_170 : decode cX11_readsPiece 170 = .ok (.getfield 7, 3) := by decide +kernel
theorem dX11_readsPiece_173 : decode cX11_readsPiece 173 = .ok (.sipush 505, 3) := by decide +kernel
theorem dX11_readsPiece_176 : decode cX11_readsPiece 176 = .ok (.bipush 12, 2) := by decide +kernel
theorem dX11_readsPiece_178 : decode cX11_readsPiece 178 = .ok (.iload_n 1, 1) := by decide +kernel
theorem dX11_readsPiece_179 : decode cX11_readsPiece 179 = .ok (.imul, 1) := by decide +kernel
theorem dX11_readsPiece_180 : decode cX11_readsPiece 180 = .ok (.iadd, 1) := by decide +kernel
theorem dX11_readsPiece_181 : decode cX11_readsPiece 181 = .ok (.iconst 2, 1) := by decide +kernel
theorem dX11_readsPiece_182 : decode cX11_readsPiece 182 = .ok (.iload_n 3, 1) := by decide +kernel
theorem dX11_readsPiece_183 : decode cX11_readsPiece 183 = .ok (.imul, 1) := by decide +kernel
theorem dX11_readsPiece_184 : decode cX11_readsPiece 184 = .ok (.iadd, 1) := by decide +kernel
theorem dX11_readsPiece_185 : decode cX11_readsPiece 185 = .ok (.iload 5, 2) := by decide +kernel
theorem dX11_readsPiece_187 : decode cX11_readsPiece 187 = .ok (.iastore, 1) := by decide +kernel
theorem dX11_readsPiece_188 : decode cX11_readsPiece 188 = .ok (.aload_n 0, 1) := by decide +kernel
theorem dX11_readsPiece_189 : decode cX11_readsPiece 189 = .ok (.getfield 7, 3) := by decide +kernel
theorem dX11_readsPiece_192 : decode cX11_readsPiece 192 = .ok (.sipush 501, 3) := by decide +kernel
theorem dX11_readsPiece_195 : decode cX11_readsPiece 195 = .ok (.iload_n 1, 1) := by decide +kernel
theorem dX11_readsPiece_196 : decode cX11_readsPiece 196 = .ok (.iadd, 1) := by decide +kernel
theorem dX11_readsPiece_197 : decode cX11_readsPiece 197 = .ok (.dup2, 1) := by decide +kernel
theorem dX11_readsPiece_198 : decode cX11_readsPiece 198 = .ok (.iaload, 1) := by decide +kernel
theorem dX11_readsPiece_199 : decode cX11_readsPiece 199 = .ok (.iconst 1, 1) := by decide +kernel
theorem dX11_readsPiece_200 : decode cX11_readsPiece 200 = .ok (.iadd, 1) := by decide +kernel
theorem dX11_readsPiece_201 : decode cX11_readsPiece 201 = .ok (.iastore, 1) := by decide +kernel
theorem dX11_readsPiece_202 : decode cX11_readsPiece 202 = .ok (.goto (-180), 3) := by decide +kernel
theorem dX11_readsPiece_205 : decode cX11_readsPiece 205 = .ok (.aload_n 0, 1) := by decide +kernel
theorem dX11_readsPiece_206 : decode cX11_readsPiece 206 = .ok (.getfield 7, 3) := by decide +kernel
theorem dX11_readsPiece_209 : decode cX11_readsPiece 209 = .ok (.sipush 500, 3) := by decide +kernel
theorem dX11_readsPiece_212 : decode cX11_readsPiece 212 = .ok (.dup2, 1) := by decide +kernel
theorem dX11_readsPiece_213 : decode cX11_readsPiece 213 = .ok (.iaload, 1) := by decide +kernel
theorem dX11_readsPiece_214 : decode cX11_readsPiece 214 = .ok (.aload_n 0, 1) := by decide +kernel
theorem dX11_readsPiece_215 : decode cX11_readsPiece 215 = .ok (.getfield 157, 3) := by decide +kernel
theorem dX11_readsPiece_218 : decode cX11_readsPiece 218 = .ok (.ifCond .eq 7, 3) := by decide +kernel
theorem dX11_readsPiece_221 : decode cX11_readsPiece 221 = .ok (.iconst 0, 1) := by decide +kernel
theorem dX11_readsPiece_222 : decode cX11_readsPiece 222 = .ok (.goto 4, 3) := by decide +kernel
theorem dX11_readsPiece_225 : decode cX11_readsPiece 225 = .ok (.iconst 1, 1) := by decide +kernel
theorem dX11_readsPiece_226 : decode cX11_readsPiece 226 = .ok (.iadd, 1) := by decide +kernel
theorem dX11_readsPiece_227 : decode cX11_readsPiece 227 = .ok (.iastore, 1) := by decide +kernel
theorem dX11_readsPiece_228 : decode cX11_readsPiece 228 = .ok (.return_, 1) := by decide +kernel
abbrev rmX11_readsPiece : Room := { frames := 3, cells := 0, slots := 0, locals := 120 }
abbrev sX11_readsPiece (E : EV) : List AV → AH → (Option AV → AH → Prop) → Prop := Spec E yX11_readsPiece cX11_readsPiece 6 none rmX11_readsPiece
theorem mX11_readsPiece : Mt yX11_readsPiece cX11_readsPiece 6 none 0 := ⟨k1067, k12, by decide +kernel⟩
theorem vX11_readsPiece : MtV yX11_readsPiece 11 := ⟨k1066, kp32, by decide, (RX11, TX11, 26), rfl, rfl⟩
def PX11_readsPiece_226 (E : EV) (post : Option AV → AH → Prop) (h : AH) (s0 : Option Nat) (s1 : Int32) (s2 : Int32) (s3 : Int32) : Prop :=
  astI h s0 0 s1 (s2 + s3) fun h1 => post none h1
theorem bX11_readsPiece_226 {E : EV} {X : AX} {post : Option AV → AH → Prop} (C : Cb E X cX11_readsPiece RX11 6 rmX11_readsPiece) (D : Cr E X none rmX11_readsPiece "readsPiece" post) {h : AH} {s0 : Option Nat} {s1 : Int32} {s2 : Int32} {s3 : Int32} (w : PX11_readsPiece_226 E post h s0 s1 s2 s3) : Go E X 6 0 0 226 [] [aI s3, aI s2, aI s1, aP s0] h := by
  unfold PX11_readsPiece_226 at w
  refine r_iadd C dX11_readsPiece_226 ?_
  refine r_iast C dX11_readsPiece_227 (w.mono fun h1 w => ?_)
  exact r_vret C D rfl (Nat.zero_le _) (Nat.zero_le _) dX11_readsPiece_228 w
def PX11_readsPiece_205 (E : EV) (post : Option AV → AH → Prop) (h : AH) (l0 : Option Nat) : Prop :=
  rdP h l0 11 0 fun x1 => aldI h x1 0 (500 : Int32) fun x2 => rdI h l0 11 14 fun x3 => (x3 = 0 → PX11_readsPiece_226 E post h x1 (500 : Int32) x2 (1 : Int32)) ∧ (¬ x3 = 0 → PX11_readsPiece_226 E post h x1 (500 : Int32) x2 (0 : Int32))
theorem bX11_readsPiece_205 {E : EV} {X : AX} {post : Option AV → AH → Prop} (C : Cb E X cX11_readsPiece RX11 6 rmX11_readsPiece) (D : Cr E X none rmX11_readsPiece "readsPiece" post) {h : AH} {l0 : Option Nat} (w : PX11_readsPiece_205 E post h l0) : Go E X 6 0 0 205 [(0, aP l0)] [] h := by
  unfold PX11_readsPiece_205 at w
  refine r_aload_n C dX11_readsPiece_205 rfl 0 rfl ?_
  refine r_getP C fcX11 (f := 0) (by decide) rfl k943 dX11_readsPiece_206 (w.mono fun x1 w => ?_)
  refine r_sipush (v := 500) C dX11_readsPiece_209 rfl ?_
  refine r_dup2 C dX11_readsPiece_212 rfl rfl ?_
  refine r_iald C dX11_readsPiece_213 (w.mono fun x2 w => ?_)
  refine r_aload_n C dX11_readsPiece_214 rfl 0 rfl ?_
  refine r_getI C fcX11 (f := 14) (by decide) rfl k957 dX11_readsPiece_215 (w.mono fun x3 w => ?_)
  refine r_if_eq C dX11_readsPiece_218 (tgt := 225) rfl (fun hc => ?_) (fun hc => ?_)
  · have w := w.1 hc
    refine r_iconst (v := 1) C dX11_readsPiece_225 rfl ?_
    exact r_sub [] rfl (bX11_readsPiece_226 C D w)
  · have w := w.2 hc
    refine r_iconst (v := 0) C dX11_readsPiece_221 rfl ?_
    refine r_goto C dX11_readsPiece_222 (tgt := 226) rfl ?_
    exact r_sub [] rfl (bX11_readsPiece_226 C D w)
def PX11_readsPiece_122 (E : EV) (post : Option AV → AH → Prop) (J22 : AH → Option Nat → Int32 → Int32 → Prop) (h : AH) (l0 : Option Nat) (l1 : Int32) (l2 : Int32) (l3 : Int32) (s0 : Option Nat) (s1 : Int32) : Prop :=
  (s1 = 0 ∨ s1 = 1) ∧ wr h s0 11 14 (aI s1) (fun h1 => CV (sX11_number E) l0 11 [] h1 (kI fun x2 h3 => CV (sX11_takes E) l0 11 [aI (44 : Int32)] h3 (kV fun h6 => CV (sX11_number E) l0 11 [] h6 (kI fun x7 h8 => rdI h8 l0 11 14 fun x10 => (¬ x10 = 0 → J22 h8 l0 l1 l2) ∧ (x10 = 0 → rdP h8 l0 11 0 fun x11 => astI h8 x11 0 (((504 : Int32) + ((12 : Int32) * l1)) + ((2 : Int32) * l3)) x2 fun h12 => rdP h12 l0 11 0 fun x13 => astI h12 x13 0 (((505 : Int32) + ((12 : Int32) * l1)) + ((2 : Int32) * l3)) x7 fun h14 => rdP h14 l0 11 0 fun x15 => aldI h14 x15 0 ((501 : Int32) + l1) fun x16 => astI h14 x15 0 ((501 : Int32) + l1) (x16 + (1 : Int32)) fun h17 => J22 h17 l0 l1 l2)))))
theorem bX11_readsPiece_122 {E : EV} {X : AX} {post : Option AV → AH → Prop} (C : Cb E X cX11_readsPiece RX11 6 rmX11_readsPiece) (D : Cr E X none rmX11_readsPiece "readsPiece" post) {J22 : AH → Option Nat → Int32 → Int32 → Prop} (g22 : ∀ (h : AH) (l0 : Option Nat) (l1 : Int32) (l2 : Int32), J22 h l0 l1 l2 → Go E X 6 0 0 22 [(0, aP l0), (1, aI l1), (2, aI l2)] [] h) {h : AH} {l0 : Option Nat} {l1 : Int32} {l2 : Int32} {l3 : Int32} {s0 : Option Nat} {s1 : Int32} (w : PX11_readsPiece_122 E post J22 h l0 l1 l2 l3 s0 s1) : Go E X 6 0 0 122 [(0, aP l0), (1, aI l1), (2, aI l2), (3, aI l3)] [aI s1, aP s0] h := by
  unfold PX11_readsPiece_122 at w
  have hz := w.1
  have w := w.2
  refine r_put C fcX11 (f := 14) (by decide) rfl rfl (nr_Z hz) (ft_Z hz) k957 dX11_readsPiece_122 (w.mono fun h1 w => ?_)
  refine r_aload_n C dX11_readsPiece_125 rfl 0 rfl ?_
  refine r_cvI (rm' := rmX11_number) C mX11_number vX11_number k1084 [] [] rfl rfl (Nat.le_of_ble_eq_true rfl) (by decide) ⟨Nat.zero_le _, Nat.zero_le _⟩ 0 0 rfl rfl dX11_readsPiece_126 w (fun x2 h3 w => ?_)
  refine r_istore C dX11_readsPiece_129 (by decide) rfl ?_
  refine r_aload_n C dX11_readsPiece_131 rfl 1 rfl ?_
  refine r_bipush (v := 44) C dX11_readsPiece_132 rfl ?_
  refine r_cvV (rm' := rmX11_takes) C mX11_takes vX11_takes k1092 [aI (44 : Int32)] [] rfl rfl (Nat.le_of_ble_eq_true rfl) (by decide) ⟨Nat.zero_le _, Nat.zero_le _⟩ 0 0 rfl rfl dX11_readsPiece_134 w (fun h6 w => ?_)
  refine r_aload_n C dX11_readsPiece_137 rfl 1 rfl ?_
  refine r_cvI (rm' := rmX11_number) C mX11_number vX11_number k1084 [] [] rfl rfl (Nat.le_of_ble_eq_true rfl) (by decide) ⟨Nat.zero_le _, Nat.zero_le _⟩ 0 0 rfl rfl dX11_readsPiece_138 w (fun x7 h8 w => ?_)
  refine r_istore C dX11_readsPiece_141 (by decide) rfl ?_
  refine r_aload_n C dX11_readsPiece_143 rfl 2 rfl ?_
  refine r_getI C fcX11 (f := 14) (by decide) rfl k957 dX11_readsPiece_144 (w.mono fun x10 w => ?_)
  refine r_if_ne C dX11_readsPiece_147 (tgt := 202) rfl (fun hc => ?_) (fun hc => ?_)
  · have w := w.1 hc
    refine r_goto C dX11_readsPiece_202 (tgt := 22) rfl ?_
    exact r_sub [2, 3, 4] rfl (g22 h8 l0 l1 l2 w)
  · have w := w.2 hc
    refine r_aload_n C dX11_readsPiece_150 rfl 2 rfl ?_
    refine r_getP C fcX11 (f := 0) (by decide) rfl k943 dX11_readsPiece_151 (w.mono fun x11 w => ?_)
    refine r_sipush (v := 504) C dX11_readsPiece_154 rfl ?_
    refine r_bipush (v := 12) C dX11_readsPiece_157 rfl ?_
    refine r_iload_n C dX11_readsPiece_159 rfl 3 rfl ?_
    refine r_imul C dX11_readsPiece_160 ?_
    refine r_iadd C dX11_readsPiece_161 ?_
    refine r_iconst (v := 2) C dX11_readsPiece_162 rfl ?_
    refine r_iload_n C dX11_readsPiece_163 rfl 5 rfl ?_
    refine r_imul C dX11_readsPiece_164 ?_
    refine r_iadd C dX11_readsPiece_165 ?_
    refine r_iload C dX11_readsPiece_166 1 rfl ?_
    refine r_iast C dX11_readsPiece_168 (w.mono fun h12 w => ?_)
    refine r_aload_n C dX11_readsPiece_169 rfl 2 rfl ?_
    refine r_getP C fcX11 (f := 0) (by decide) rfl k943 dX11_readsPiece_170 (w.mono fun x13 w => ?_)
    refine r_sipush (v := 505) C dX11_readsPiece_173 rfl ?_
    refine r_bipush (v := 12) C dX11_readsPiece_176 rfl ?_
    refine r_iload_n C dX11_readsPiece_178 rfl 3 rfl ?_
    refine r_imul C dX11_readsPiece_179 ?_
    refine r_iadd C dX11_readsPiece_180 ?_
    refine r_iconst (v := 2) C dX11_readsPiece_181 rfl ?_
    refine r_iload_n C dX11_readsPiece_182 rfl 5 rfl ?_
    refine r_imul C dX11_readsPiece_183 ?_
    refine r_iadd C dX11_readsPiece_184 ?_
    refine r_iload C dX11_readsPiece_185 0 rfl ?_
    refine r_iast C dX11_readsPiece_187 (w.mono fun h14 w => ?_)
    refine r_aload_n C dX11_readsPiece_188 rfl 2 rfl ?_
    refine r_getP C fcX11 (f := 0) (by decide) rfl k943 dX11_readsPiece_189 (w.mono fun x15 w => ?_)
    refine r_sipush (v := 501) C dX11_readsPiece_192 rfl ?_
    refine r_iload_n C dX11_readsPiece_195 rfl 3 rfl ?_
    refine r_iadd C dX11_readsPiece_196 ?_
    refine r_dup2 C dX11_readsPiece_197 rfl rfl ?_
    refine r_iald C dX11_readsPiece_198 (w.mono fun x16 w => ?_)
    refine r_iconst (v := 1) C dX11_readsPiece_199 rfl ?_
    refine r_iadd C dX11_readsPiece_200 ?_
    refine r_iast C dX11_readsPiece_201 (w.mono fun h17 w => ?_)
    refine r_goto C dX11_readsPiece_202 (tgt := 22) rfl ?_
    exact r_sub [2, 3, 4] rfl (g22 h17 l0 l1 l2 w)
def PX11_readsPiece_103 (E : EV) (post : Option AV → AH → Prop) (J22 : AH → Option Nat → Int32 → Int32 → Prop) (h : AH) (l0 : Option Nat) (l1 : Int32) (l2 : Int32) (s0 : Option Nat) (s1 : Int32) (s2 : Int32) : Prop :=
  wr h s0 11 13 (aI (s1 + s2)) fun h1 => J22 h1 l0 l1 l2
theorem bX11_readsPiece_103 {E : EV} {X : AX} {post : Option AV → AH → Prop} (C : Cb E X cX11_readsPiece RX11 6 rmX11_readsPiece) (D : Cr E X none rmX11_readsPiece "readsPiece" post) {J22 : AH → Option Nat → Int32 → Int32 → Prop} (g22 : ∀ (h : AH) (l0 : Option Nat) (l1 : Int32) (l2 : Int32), J22 h l0 l1 l2 → Go E X 6 0 0 22 [(0, aP l0), (1, aI l1), (2, aI l2)] [] h) {h : AH} {l0 : Option Nat} {l1 : Int32} {l2 : Int32} {s0 : Option Nat} {s1 : Int32} {s2 : Int32} (w : PX11_readsPiece_103 E post J22 h l0 l1 l2 s0 s1 s2) : Go E X 6 0 0 103 [(0, aP l0), (1, aI l1), (2, aI l2)] [aI s2, aI s1, aP s0] h := by
  unfold PX11_readsPiece_103 at w
  refine r_iadd C dX11_readsPiece_103 ?_
  refine r_put C fcX11 (f := 13) (by decide) rfl rfl rfl rfl k956 dX11_readsPiece_104 (w.mono fun h1 w => ?_)
  refine r_goto C dX11_readsPiece_107 (tgt := 202) rfl ?_
  refine r_goto C dX11_readsPiece_202 (tgt := 22) rfl ?_
  exact (g22 h1 l0 l1 l2 w)
def PX11_readsPiece_86 (E : EV) (post : Option AV → AH → Prop) (J22 : AH → Option Nat → Int32 → Int32 → Prop) (h : AH) (l0 : Option Nat) (l1 : Int32) (l2 : Int32) (s0 : Option Nat) (s1 : Int32) : Prop :=
  (s1 = 0 ∨ s1 = 1) ∧ wr h s0 11 14 (aI s1) (fun h1 => rdI h1 l0 11 13 fun x2 => (l2 = 0 → PX11_readsPiece_103 E post J22 h1 l0 l1 l2 l0 x2 (0 : Int32)) ∧ (¬ l2 = 0 → PX11_readsPiece_103 E post J22 h1 l0 l1 l2 l0 x2 (1 : Int32)))
theorem bX11_readsPiece_86 {E : EV} {X : AX} {post : Option AV → AH → Prop} (C : Cb E X cX11_readsPiece RX11 6 rmX11_readsPiece) (D : Cr E X none rmX11_readsPiece "readsPiece" post) {J22 : AH → Option Nat → Int32 → Int32 → Prop} (g22 : ∀ (h : AH) (l0 : Option Nat) (l1 : Int32) (l2 : Int32), J22 h l0 l1 l2 → Go E X 6 0 0 22 [(0, aP l0), (1, aI l1), (2, aI l2)] [] h) {h : AH} {l0 : Option Nat} {l1 : Int32} {l2 : Int32} {s0 : Option Nat} {s1 : Int32} (w : PX11_readsPiece_86 E post J22 h l0 l1 l2 s0 s1) : Go E X 6 0 0 86 [(0, aP l0), (1, aI l1), (2, aI l2)] [aI s1, aP s0] h := by
  unfold PX11_readsPiece_86 at w
  have hz := w.1
  have w := w.2
  refine r_put C fcX11 (f := 14) (by decide) rfl rfl (nr_Z hz) (ft_Z hz) k957 dX11_readsPiece_86 (w.mono fun h1 w => ?_)
  refine r_aload_n C dX11_readsPiece_89 rfl 0 rfl ?_
  refine r_dup C dX11_readsPiece_90 rfl ?_
  refine r_getI C fcX11 (f := 13) (by decide) rfl k956 dX11_readsPiece_91 (w.mono fun x2 w => ?_)
  refine r_iload_n C dX11_readsPiece_94 rfl 2 rfl ?_
  refine r_if_eq C dX11_readsPiece_95 (tgt := 102) rfl (fun hc => ?_) (fun hc => ?_)
  · have w := w.1 hc
    refine r_iconst (v := 0) C dX11_readsPiece_102 rfl ?_
    exact (bX11_readsPiece_103 C D g22 w)
  · have w := w.2 hc
    refine r_iconst (v := 1) C dX11_readsPiece_98 rfl ?_
    refine r_goto C dX11_readsPiece_99 (tgt := 103) rfl ?_
    exact (bX11_readsPiece_103 C D g22 w)
def PX11_readsPiece_75 (E : EV) (post : Option AV → AH → Prop) (J22 : AH → Option Nat → Int32 → Int32 → Prop) (h : AH) (l0 : Option Nat) (l1 : Int32) (s0 : Int32) : Prop :=
  (¬ s0 = 0 → PX11_readsPiece_86 E post J22 h l0 l1 s0 l0 (0 : Int32)) ∧ (s0 = 0 → PX11_readsPiece_86 E post J22 h l0 l1 s0 l0 (1 : Int32))
theorem bX11_readsPiece_75 {E : EV} {X : AX} {post : Option AV → AH → Prop} (C : Cb E X cX11_readsPiece RX11 6 rmX11_readsPiece) (D : Cr E X none rmX11_readsPiece "readsPiece" post) {J22 : AH → Option Nat → Int32 → Int32 → Prop} (g22 : ∀ (h : AH) (l0 : Option Nat) (l1 : Int32) (l2 : Int32), J22 h l0 l1 l2 → Go E X 6 0 0 22 [(0, aP l0), (1, aI l1), (2, aI l2)] [] h) {h : AH} {l0 : Option Nat} {l1 : Int32} {s0 : Int32} (w : PX11_readsPiece_75 E post J22 h l0 l1 s0) : Go E X 6 0 0 75 [(0, aP l0), (1, aI l1)] [aI s0] h := by
  unfold PX11_readsPiece_75 at w
  refine r_istore_n C dX11_readsPiece_75 rfl (by decide) rfl ?_
  refine r_aload_n C dX11_readsPiece_76 rfl 1 rfl ?_
  refine r_iload_n C dX11_readsPiece_77 rfl 0 rfl ?_
  refine r_if_ne C dX11_readsPiece_78 (tgt := 85) rfl (fun hc => ?_) (fun hc => ?_)
  · have w := w.1 hc
    refine r_iconst (v := 0) C dX11_readsPiece_85 rfl ?_
    exact r_sub [1, 2, 0] rfl (bX11_readsPiece_86 C D g22 w)
  · have w := w.2 hc
    refine r_iconst (v := 1) C dX11_readsPiece_81 rfl ?_
    refine r_goto C dX11_readsPiece_82 (tgt := 86) rfl ?_
    exact r_sub [1, 2, 0] rfl (bX11_readsPiece_86 C D g22 w)
def PX11_readsPiece_74 (E : EV) (post : Option AV → AH → Prop) (J22 : AH → Option Nat → Int32 → Int32 → Prop) (h : AH) (l0 : Option Nat) (l1 : Int32) : Prop :=
  PX11_readsPiece_75 E post J22 h l0 l1 (0 : Int32)
theorem bX11_readsPiece_74 {E : EV} {X : AX} {post : Option AV → AH → Prop} (C : Cb E X cX11_readsPiece RX11 6 rmX11_readsPiece) (D : Cr E X none rmX11_readsPiece "readsPiece" post) {J22 : AH → Option Nat → Int32 → Int32 → Prop} (g22 : ∀ (h : AH) (l0 : Option Nat) (l1 : Int32) (l2 : Int32), J22 h l0 l1 l2 → Go E X 6 0 0 22 [(0, aP l0), (1, aI l1), (2, aI l2)] [] h) {h : AH} {l0 : Option Nat} {l1 : Int32} (w : PX11_readsPiece_74 E post J22 h l0 l1) : Go E X 6 0 0 74 [(0, aP l0), (1, aI l1)] [] h := by
  unfold PX11_readsPiece_74 at w
  refine r_iconst (v := 0) C dX11_readsPiece_74 rfl ?_
  exact (bX11_readsPiece_75 C D g22 w)
def PX11_readsPiece_22 (E : EV) (post : Option AV → AH → Prop) (J22 : AH → Option Nat → Int32 → Int32 → Prop) (h : AH) (l0 : Option Nat) (l1 : Int32) (l2 : Int32) : Prop :=
  rdI h l0 11 14 fun x1 => (¬ x1 = 0 → PX11_readsPiece_205 E post h l0) ∧ (x1 = 0 → (¬ l2 = 0 → PX11_readsPiece_205 E post h l0) ∧ (l2 = 0 → CV (sX11_skip E) l0 11 [] h (kV fun h3 => rdP h3 l0 11 0 fun x4 => aldI h3 x4 0 ((501 : Int32) + l1) fun x5 => CV (sX11_here E) l0 11 [] h3 (kI fun x7 h8 => (¬ x7 = (59 : Int32) → (¬ x5 = (6 : Int32) → PX11_readsPiece_122 E post J22 h8 l0 l1 l2 x5 l0 (0 : Int32)) ∧ (x5 = (6 : Int32) → PX11_readsPiece_122 E post J22 h8 l0 l1 l2 x5 l0 (1 : Int32))) ∧ (x7 = (59 : Int32) → (x5 ≤ (2 : Int32) → PX11_readsPiece_74 E post J22 h8 l0 l1) ∧ (¬ x5 ≤ (2 : Int32) → CV (sX11_isPiece E) l0 11 [aI l1] h8 (kI fun x9 h10 => (x9 = 0 → PX11_readsPiece_74 E post J22 h10 l0 l1) ∧ (¬ x9 = 0 → PX11_readsPiece_75 E post J22 h10 l0 l1 (1 : Int32)))))))))
theorem bX11_readsPiece_22 {E : EV} {X : AX} {post : Option AV → AH → Prop} (C : Cb E X cX11_readsPiece RX11 6 rmX11_readsPiece) (D : Cr E X none rmX11_readsPiece "readsPiece" post) {J22 : AH → Option Nat → Int32 → Int32 → Prop} (g22 : ∀ (h : AH) (l0 : Option Nat) (l1 : Int32) (l2 : Int32), J22 h l0 l1 l2 → Go E X 6 0 0 22 [(0, aP l0), (1, aI l1), (2, aI l2)] [] h) {h : AH} {l0 : Option Nat} {l1 : Int32} {l2 : Int32} (w : PX11_readsPiece_22 E post J22 h l0 l1 l2) : Go E X 6 0 0 22 [(0, aP l0), (1, aI l1), (2, aI l2)] [] h := by
  unfold PX11_readsPiece_22 at w
  refine r_aload_n C dX11_readsPiece_22 rfl 0 rfl ?_
  refine r_getI C fcX11 (f := 14) (by decide) rfl k957 dX11_readsPiece_23 (w.mono fun x1 w => ?_)
  refine r_if_ne C dX11_readsPiece_26 (tgt := 205) rfl (fun hc => ?_) (fun hc => ?_)
  · have w := w.1 hc
    exact r_sub [0] rfl (bX11_readsPiece_205 C D w)
  · have w := w.2 hc
    refine r_iload_n C dX11_readsPiece_29 rfl 2 rfl ?_
    refine r_if_ne C dX11_readsPiece_30 (tgt := 205) rfl (fun hc => ?_) (fun hc => ?_)
    · have w := w.1 hc
      exact r_sub [0] rfl (bX11_readsPiece_205 C D w)
    · have w := w.2 hc
      refine r_aload_n C dX11_readsPiece_33 rfl 0 rfl ?_
      refine r_cvV (rm' := rmX11_skip) C mX11_skip vX11_skip k1056 [] [] rfl rfl (Nat.le_of_ble_eq_true rfl) (by decide) ⟨Nat.zero_le _, Nat.zero_le _⟩ 0 0 rfl rfl dX11_readsPiece_34 w (fun h3 w => ?_)
      refine r_aload_n C dX11_readsPiece_37 rfl 0 rfl ?_
      refine r_getP C fcX11 (f := 0) (by decide) rfl k943 dX11_readsPiece_38 (w.mono fun x4 w => ?_)
      refine r_sipush (v := 501) C dX11_readsPiece_41 rfl ?_
      refine r_iload_n C dX11_readsPiece_44 rfl 1 rfl ?_
      refine r_iadd C dX11_readsPiece_45 ?_
      refine r_iald C dX11_readsPiece_46 (w.mono fun x5 w => ?_)
      refine r_istore_n C dX11_readsPiece_47 rfl (by decide) rfl ?_
      refine r_aload_n C dX11_readsPiece_48 rfl 1 rfl ?_
      refine r_cvI (rm' := rmX11_here) C mX11_here vX11_here k1060 [] [] rfl rfl (Nat.le_of_ble_eq_true rfl) (by decide) ⟨Nat.zero_le _, Nat.zero_le _⟩ 0 0 rfl rfl dX11_readsPiece_49 w (fun x7 h8 w => ?_)
      refine r_bipush (v := 59) C dX11_readsPiece_52 rfl ?_
      refine r_icmp_ne C dX11_readsPiece_54 (tgt := 110) rfl (fun hc => ?_) (fun hc => ?_)
      · have w := w.1 hc
        refine r_aload_n C dX11_readsPiece_110 rfl 1 rfl ?_
        refine r_iload_n C dX11_readsPiece_111 rfl 0 rfl ?_
        refine r_bipush (v := 6) C dX11_readsPiece_112 rfl ?_
        refine r_icmp_ne C dX11_readsPiece_114 (tgt := 121) rfl (fun hc => ?_) (fun hc => ?_)
        · have w := w.1 hc
          refine r_iconst (v := 0) C dX11_readsPiece_121 rfl ?_
          exact r_sub [1, 2, 3, 0] rfl (bX11_readsPiece_122 C D g22 w)
        · have w := w.2 hc
          refine r_iconst (v := 1) C dX11_readsPiece_117 rfl ?_
          refine r_goto C dX11_readsPiece_118 (tgt := 122) rfl ?_
          exact r_sub [1, 2, 3, 0] rfl (bX11_readsPiece_122 C D g22 w)
      · have w := w.2 hc
        refine r_iload_n C dX11_readsPiece_57 rfl 0 rfl ?_
        refine r_iconst (v := 2) C dX11_readsPiece_58 rfl ?_
        refine r_icmp_le C dX11_readsPiece_59 (tgt := 74) rfl (fun hc => ?_) (fun hc => ?_)
        · have w := w.1 hc
          exact r_sub [1, 2] rfl (bX11_readsPiece_74 C D g22 w)
        · have w := w.2 hc
          refine r_aload_n C dX11_readsPiece_62 rfl 1 rfl ?_
          refine r_iload_n C dX11_readsPiece_63 rfl 2 rfl ?_
          refine r_cvI (rm' := rmX11_isPiece) C mX11_isPiece vX11_isPiece k1068 [aI l1] [] rfl rfl (Nat.le_of_ble_eq_true rfl) (by decide) ⟨Nat.zero_le _, Nat.zero_le _⟩ 0 0 rfl rfl dX11_readsPiece_64 w (fun x9 h10 w => ?_)
          refine r_if_eq C dX11_readsPiece_67 (tgt := 74) rfl (fun hc => ?_) (fun hc => ?_)
          · have w := w.1 hc
            exact r_sub [1, 2] rfl (bX11_readsPiece_74 C D g22 w)
          · have w := w.2 hc
            refine r_iconst (v := 1) C dX11_readsPiece_70 rfl ?_
            refine r_goto C dX11_readsPiece_71 (tgt := 75) rfl ?_
            exact r_sub [1, 2] rfl (bX11_readsPiece_75 C D g22 w)
theorem lpX11_readsPiece_22 {E : EV} {X : AX} {post : Option AV → AH → Prop} (C : Cb E X cX11_readsPiece RX11 6 rmX11_readsPiece) (D : Cr E X none rmX11_readsPiece "readsPiece" post) (I : Nat → AH → Option Nat → Int32 → Int32 → Prop) (step : ∀ (z : Nat) (h : AH) (l0 : Option Nat) (l1 : Int32) (l2 : Int32), I z h l0 l1 l2 → PX11_readsPiece_22 E post (fun h l0 l1 l2 => ∃ z', z' < z ∧ I z' h l0 l1 l2) h l0 l1 l2) : ∀ (z : Nat) (h : AH) (l0 : Option Nat) (l1 : Int32) (l2 : Int32), I z h l0 l1 l2 → Go E X 6 0 0 22 [(0, aP l0), (1, aI l1), (2, aI l2)] [] h := by
  intro z
  induction z using Nat.strongRecOn with
  | _ z ih =>
    intro h l0 l1 l2 hI
    exact bX11_readsPiece_22 C D (fun h l0 l1 l2 hJ => by obtain ⟨z', hz, hi⟩ := hJ; exact ih z' hz h l0 l1 l2 hi) (step z h l0 l1 l2 hI)
def PX11_readsPiece_0 (E : EV) (post : Option AV → AH → Prop) (J22 : AH → Option Nat → Int32 → Int32 → Prop) (h : AH) (l0 : Option Nat) : Prop :=
  rdP h l0 11 0 fun x1 => aldI h x1 0 (500 : Int32) fun x2 => rdP h l0 11 0 fun x4 => astI h x4 0 ((501 : Int32) + x2) (0 : Int32) fun h5 => J22 h5 l0 x2 (0 : Int32)
theorem bX11_readsPiece_0 {E : EV} {X : AX} {post : Option AV → AH → Prop} (C : Cb E X cX11_readsPiece RX11 6 rmX11_readsPiece) (D : Cr E X none rmX11_readsPiece "readsPiece" post) {J22 : AH → Option Nat → Int32 → Int32 → Prop} (g22 : ∀ (h : AH) (l0 : Option Nat) (l1 : Int32) (l2 : Int32), J22 h l0 l1 l2 → Go E X 6 0 0 22 [(0, aP l0), (1, aI l1), (2, aI l2)] [] h) {h : AH} {l0 : Option Nat} (w : PX11_readsPiece_0 E post J22 h l0) : Go E X 6 0 0 0 [(0, aP l0)] [] h := by
  unfold PX11_readsPiece_0 at w
  refine r_aload_n C dX11_readsPiece_0 rfl 0 rfl ?_
  refine r_getP C fcX11 (f := 0) (by decide) rfl k943 dX11_readsPiece_1 (w.mono fun x1 w => ?_)
  refine r_sipush (v := 500) C dX11_readsPiece_4 rfl ?_
  refine r_iald C dX11_readsPiece_7 (w.mono fun x2 w => ?_)
  refine r_istore_n C dX11_readsPiece_8 rfl (by decide) rfl ?_
  refine r_aload_n C dX11_readsPiece_9 rfl 1 rfl ?_
  refine r_getP C fcX11 (f := 0) (by decide) rfl k943 dX11_readsPiece_10 (w.mono fun x4 w => ?_)
  refine r_sipush (v := 501) C dX11_readsPiece_13 rfl ?_
  refine r_iload_n C dX11_readsPiece_16 rfl 0 rfl ?_
  refine r_iadd C dX11_readsPiece_17 ?_
  refine r_iconst (v := 0) C dX11_readsPiece_18 rfl ?_
  refine r_iast C dX11_readsPiece_19 (w.mono fun h5 w => ?_)
  refine r_iconst (v := 0) C dX11_readsPiece_20 rfl ?_
  refine r_istore_n C dX11_readsPiece_21 rfl (by decide) rfl ?_
  exact r_sub [2, 1, 0] rfl (g22 h5 l0 x2 (0 : Int32) w)
theorem eX11_readsPiece {E : EV} {post : Option AV → AH → Prop} {h : AH} {l0 : Option Nat} {J22 : AH → Option Nat → Int32 → Int32 → Prop} (g22 : ∀ X : AX, Cb E X cX11_readsPiece RX11 6 rmX11_readsPiece → Cr E X none rmX11_readsPiece "readsPiece" post → ∀ (h : AH) (l0 : Option Nat) (l1 : Int32) (l2 : Int32), J22 h l0 l1 l2 → Go E X 6 0 0 22 [(0, aP l0), (1, aI l1), (2, aI l2)] [] h) (w : PX11_readsPiece_0 E post J22 h l0) : sX11_readsPiece E [aP l0] h post := Spec.of RX11 rfl rfl (Nat.le_of_ble_eq_true rfl) fun X C D => bX11_readsPiece_0 C D (g22 X C D) w
theorem dX11_readsShape_0 : decode cX11_readsShape 0 = .ok (.iconst 0, 1) := by decide +kernel
theorem dX11_readsShape_1 : decode cX11_readsShape 1 = .ok (.istore_n 1, 1) := by decide +kernel
theorem dX11_readsShape_2 : decode cX11_readsShape 2 = .ok (.iload_n 1, 1) := by decide +kernel
theorem dX11_readsShape_3 : decode cX11_readsShape 3 = .ok (.bipush 40, 2) := by decide +kernel
theorem dX11_readsShape_5 : decode cX11_readsShape 5 = .ok (.if_icmp .ge 20, 3) := by decide +kernel
theorem dX11_readsShape_8 : decode cX11_readsShape 8 = .ok (.aload_n 0, 1) := by decide +kernel
theorem dX11_readsShape_9 : decode cX11_readsShape 9 = .ok (.getfield 7, 3) := by decide +kernel
theorem dX11_readsShape_12 : decode cX11_readsShape 12 = .ok (.sipush 500, 3) := by decide +kernel
theorem dX11_readsShape_15 : decode cX11_readsShape 15 = .ok (.iload_n 1, 1) := by decide +kernel
theorem dX11_readsShape_16 : decode cX11_readsShape 16 = .ok (.iadd, 1) := by decide +kernel
theorem dX11_readsShape_17 : decode cX11_readsShape 17 = .ok (.iconst 0, 1) := by decide +kernel
theorem dX11_readsShape_18 : decode cX11_readsShape 18 = .ok (.iastore, 1) := by decide +kernel
theorem dX11_readsShape_19 : decode cX11_readsShape 19 = .ok (.iinc 1 1, 3) := by decide +kernel
theorem dX11_readsShape_22 : decode cX11_readsShape 22 = .ok (.goto (-20), 3) := by decide +kernel
theorem dX11_readsShape_25 : decode cX11_readsShape 25 = .ok (.aload_n 0, 1) := by decide +kernel
theorem dX11_readsShape_26 : decode cX11_readsShape 26 = .ok (.iconst 0, 1) := by decide +kernel
theorem dX11_readsShape_27 : decode cX11_readsShape 27 = .ok (.putfield 150, 3) := by decide +kernel
theorem dX11_readsShape_30 : decode cX11_readsShape 30 = .ok (.aload_n 0, 1) := by decide +kernel
theorem dX11_readsShape_31 : decode cX11_readsShape 31 = .ok (.iconst 0, 1) := by decide +kernel
theorem dX11_readsShape_32 : decode cX11_readsShape 32 = .ok (.putfield 157, 3) := by decide +kernel
theorem dX11_readsShape_35 : decode cX11_readsShape 35 = .ok (.aload_n 0, 1) := by decide +kernel
theorem dX11_readsShape_36 : decode cX11_readsShape 36 = .ok (.invokevirtual 161, 3) := by decide +kernel
theorem dX11_readsShape_39 : decode cX11_readsShape 39 = .ok (.aload_n 0, 1) := by decide +kernel
theorem dX11_readsShape_40 : decode cX11_readsShape 40 = .ok (.aload_n 0, 1) := by decide +kernel
theorem dX11_readsShape_41 : decode cX11_readsShape 41 = .ok (.getfield 150, 3) := by decide +kernel
theorem dX11_readsShape_44 : decode cX11_readsShape 44 = .ok (.aload_n 0, 1) := by decide +kernel
theorem dX11_readsShape_45 : decode cX11_readsShape 45 = .ok (.getfield 146, 3) := by decide +kernel
theorem dX11_readsShape_48 : decode cX11_readsShape 48 = .ok (.if_icmp .ne 7, 3) := by decide +kernel
theorem dX11_readsShape_51 : decode cX11_readsShape 51 = .ok (.iconst 1, 1) := by decide +kernel
theorem dX11_readsShape_52 : decode cX11_readsShape 52 = .ok (.goto 4, 3) := by decide +kernel
theorem dX11_readsShape_55 : decode cX11_readsShape 55 = .ok (.iconst 0, 1) := by decide +kernel
theorem dX11_readsShape_56 : decode cX11_readsShape 56 = .ok (.putfield 157, 3) := by decide +kernel
theorem dX11_readsShape_59 : decode cX11_readsShape 59 = .ok (.aload_n 0, 1) := by decide +kernel
theorem dX11_readsShape_60 : decode cX11_readsShape 60 = .ok (.getfield 157, 3) := by decide +kernel
theorem dX11_readsShape_63 : decode cX11_readsShape 63 = .ok (.ifCond .ne 60, 3) := by decide +kernel
theorem dX11_readsShape_66 : decode cX11_readsShape 66 = .ok (.aload_n 0, 1) := by decide +kernel
theorem dX11_readsShape_67 : decode cX11_readsShape 67 = .ok (.getfield 150, 3) := by decide +kernel
theorem dX11_readsShape_70 : decode cX11_readsShape 70 = .ok (.aload_n 0, 1) := by decide +kernel
theorem dX11_readsShape_71 : decode cX11_readsShape 71 = .ok (.getfield 146, 3) := by decide +kernel
theorem dX11_readsShape_74 : decode cX11_readsShape 74 = .ok (.if_icmp .ge 49, 3) := by decide +kernel
theorem dX11_readsShape_77 : decode cX11_readsShape 77 = .ok (.aload_n 0, 1) := by decide +kernel
theorem dX11_readsShape_78 : decode cX11_readsShape 78 = .ok (.aload_n 0, 1) := by decide +kernel
theorem dX11_readsShape_79 : decode cX11_readsShape 79 = .ok (.getfield 7, 3) := by decide +kernel
theorem dX11_readsShape_82 : decode cX11_readsShape 82 = .ok (.sipush 500, 3) := by decide +kernel
theorem dX11_readsShape_85 : decode cX11_readsShape 85 = .ok (.iaload, 1) := by decide +kernel
theorem dX11_readsShape_86 : decode cX11_readsShape 86 = .ok (.iconst 3, 1) := by decide +kernel
theorem dX11_readsShape_87 : decode cX11_readsShape 87 = .ok (.if_icmp .ne 7, 3) := by decide +kernel
theorem dX11_readsShape_90 : decode cX11_readsShape 90 = .ok (.iconst 1, 1) := by decide +kernel
theorem dX11_readsShape_91 : decode cX11_readsShape 91 = .ok (.goto 4, 3) := by decide +kernel
theorem dX11_readsShape_94 : decode cX11_readsShape 94 = .ok (.iconst 0, 1) := by decide +kernel
theorem dX11_readsShape_95 : decode cX11_readsShape 95 = .ok (.putfield 157, 3) := by decide +kernel
theorem dX11_readsShape_98 : decode cX11_readsShape 98 = .ok (.aload_n 0, 1) := by decide +kernel
theorem dX11_readsShape_99 : decode cX11_readsShape 99 = .ok (.getfield 157, 3) := by decide +kernel
theorem dX11_readsShape_102 : decode cX11_readsShape 102 = .ok (.ifCond .ne 7, 3) := by decide +kernel
theorem dX11_readsShape_105 : decode cX11_readsShape 105 = .ok (.aload_n 0, 1) := by decide +kernel
theorem dX11_readsShape_106 : decode cX11_readsShape 106 = .ok (.invokevirtual 179, 3) := by decide +kernel
theorem dX11_readsShape_109 : decode cX11_readsShape 109 = .ok (.aload_n 0, 1) := by decide +kernel
theorem dX11_readsShape_110 : decode cX11_readsShape 110 = .ok (.getfield 157, 3) := by decide +kernel
theorem dX11_readsShape_113 : decode cX11_readsShape 113 = .ok (.ifCond .ne (-54), 3) := by decide +kernel
theorem dX11_readsShape_116 : decode cX11_readsShape 116 = .ok (.aload_n 0, 1) := by decide +kernel
theorem dX11_readsShape_117 : decode cX11_readsShape 117 = .ok (.invokevirtual 161, 3) := by decide +kernel
theorem dX11_readsShape_120 : decode cX11_readsShape 120 = .ok (.goto (-61), 3) := by decide +kernel
theorem dX11_readsShape_123 : decode cX11_readsShape 123 = .ok (.aload_n 0, 1) := by decide +kernel
theorem dX11_readsShape_124 : decode cX11_readsShape 124 = .ok (.getfield 157, 3) := by decide +kernel
theorem dX11_readsShape_127 : decode cX11_readsShape 127 = .ok (.ifCond .ne 7, 3) := by decide +kernel
theorem dX11_readsShape_130 : decode cX11_readsShape 130 = .ok (.iconst 1, 1) := by decide +kernel
theorem dX11_readsShape_131 : decode cX11_readsShape 131 = .ok (.goto 4, 3) := by decide +kernel
theorem dX11_readsShape_134 : decode cX11_readsShape 134 = .ok (.iconst 0, 1) := by decide +kernel
theorem dX11_readsShape_135 : decode cX11_readsShape 135 = .ok (.ireturn, 1) := by decide +kernel
abbrev rmX11_readsShape : Room := { frames := 4, cells := 0, slots := 0, locals := 160 }
abbrev sX11_readsShape (E : EV) : List AV → AH → (Option AV → AH → Prop) → Prop := Spec E yX11_readsShape cX11_readsShape 2 (some .boolean) rmX11_readsShape
theorem mX11_readsShape : Mt yX11_readsShape cX11_readsShape 2 (some .boolean) 0 := ⟨k1055, k12, by decide +kernel⟩
theorem vX11_readsShape : MtV yX11_readsShape 11 := ⟨k1054, kp29, by decide, (RX11, TX11, 26), rfl, rfl⟩
def PX11_readsShape_123 (E : EV) (post : Option AV → AH → Prop) (h : AH) (l0 : Option Nat) : Prop :=
  rdI h l0 11 14 fun x1 => (¬ x1 = 0 → post (some (aI (0 : Int32))) h) ∧ (x1 = 0 → post (some (aI (1 : Int32))) h)
theorem bX11_readsShape_123 {E : EV} {X : AX} {post : Option AV → AH → Prop} (C : Cb E X cX11_readsShape RX11 2 rmX11_readsShape) (D : Cr E X (some .boolean) rmX11_readsShape "readsShape" post) {h : AH} {l0 : Option Nat} (w : PX11_readsShape_123 E post h l0) : Go E X 2 0 0 123 [(0, aP l0)] [] h := by
  unfold PX11_readsShape_123 at w
  refine r_aload_n C dX11_readsShape_123 rfl 0 rfl ?_
  refine r_getI C fcX11 (f := 14) (by decide) rfl k957 dX11_readsShape_124 (w.mono fun x1 w => ?_)
  refine r_if_ne C dX11_readsShape_127 (tgt := 134) rfl (fun hc => ?_) (fun hc => ?_)
  · have w := w.1 hc
    refine r_iconst (v := 0) C dX11_readsShape_134 rfl ?_
    exact r_zret C D rfl (Or.inl rfl) (Nat.zero_le _) (Nat.zero_le _) dX11_readsShape_135 w
  · have w := w.2 hc
    refine r_iconst (v := 1) C dX11_readsShape_130 rfl ?_
    refine r_goto C dX11_readsShape_131 (tgt := 135) rfl ?_
    exact r_zret C D rfl (Or.inr rfl) (Nat.zero_le _) (Nat.zero_le _) dX11_readsShape_135 w
def PX11_readsShape_109 (E : EV) (post : Option AV → AH → Prop) (J59 : AH → Option Nat → Prop) (h : AH) (l0 : Option Nat) : Prop :=
  rdI h l0 11 14 fun x1 => (¬ x1 = 0 → J59 h l0) ∧ (x1 = 0 → CV (sX11_skip E) l0 11 [] h (kV fun h3 => J59 h3 l0))
theorem bX11_readsShape_109 {E : EV} {X : AX} {post : Option AV → AH → Prop} (C : Cb E X cX11_readsShape RX11 2 rmX11_readsShape) (D : Cr E X (some .boolean) rmX11_readsShape "readsShape" post) {J59 : AH → Option Nat → Prop} (g59 : ∀ (h : AH) (l0 : Option Nat), J59 h l0 → Go E X 2 0 0 59 [(0, aP l0)] [] h) {h : AH} {l0 : Option Nat} (w : PX11_readsShape_109 E post J59 h l0) : Go E X 2 0 0 109 [(0, aP l0)] [] h := by
  unfold PX11_readsShape_109 at w
  refine r_aload_n C dX11_readsShape_109 rfl 0 rfl ?_
  refine r_getI C fcX11 (f := 14) (by decide) rfl k957 dX11_readsShape_110 (w.mono fun x1 w => ?_)
  refine r_if_ne C dX11_readsShape_113 (tgt := 59) rfl (fun hc => ?_) (fun hc => ?_)
  · have w := w.1 hc
    exact (g59 h l0 w)
  · have w := w.2 hc
    refine r_aload_n C dX11_readsShape_116 rfl 0 rfl ?_
    refine r_cvV (rm' := rmX11_skip) C mX11_skip vX11_skip k1056 [] [] rfl rfl (Nat.le_of_ble_eq_true rfl) (by decide) ⟨Nat.zero_le _, Nat.zero_le _⟩ 0 0 rfl rfl dX11_readsShape_117 w (fun h3 w => ?_)
    refine r_goto C dX11_readsShape_120 (tgt := 59) rfl ?_
    exact (g59 h3 l0 w)
def PX11_readsShape_95 (E : EV) (post : Option AV → AH → Prop) (J59 : AH → Option Nat → Prop) (h : AH) (l0 : Option Nat) (s0 : Option Nat) (s1 : Int32) : Prop :=
  (s1 = 0 ∨ s1 = 1) ∧ wr h s0 11 14 (aI s1) (fun h1 => rdI h1 l0 11 14 fun x2 => (¬ x2 = 0 → PX11_readsShape_109 E post J59 h1 l0) ∧ (x2 = 0 → CV (sX11_readsPiece E) l0 11 [] h1 (kV fun h4 => PX11_readsShape_109 E post J59 h4 l0)))
theorem bX11_readsShape_95 {E : EV} {X : AX} {post : Option AV → AH → Prop} (C : Cb E X cX11_readsShape RX11 2 rmX11_readsShape) (D : Cr E X (some .boolean) rmX11_readsShape "readsShape" post) {J59 : AH → Option Nat → Prop} (g59 : ∀ (h : AH) (l0 : Option Nat), J59 h l0 → Go E X 2 0 0 59 [(0, aP l0)] [] h) {h : AH} {l0 : Option Nat} {s0 : Option Nat} {s1 : Int32} (w : PX11_readsShape_95 E post J59 h l0 s0 s1) : Go E X 2 0 0 95 [(0, aP l0)] [aI s1, aP s0] h := by
  unfold PX11_readsShape_95 at w
  have hz := w.1
  have w := w.2
  refine r_put C fcX11 (f := 14) (by decide) rfl rfl (nr_Z hz) (ft_Z hz) k957 dX11_readsShape_95 (w.mono fun h1 w => ?_)
  refine r_aload_n C dX11_readsShape_98 rfl 0 rfl ?_
  refine r_getI C fcX11 (f := 14) (by decide) rfl k957 dX11_readsShape_99 (w.mono fun x2 w => ?_)
  refine r_if_ne C dX11_readsShape_102 (tgt := 109) rfl (fun hc => ?_) (fun hc => ?_)
  · have w := w.1 hc
    exact (bX11_readsShape_109 C D g59 w)
  · have w := w.2 hc
    refine r_aload_n C dX11_readsShape_105 rfl 0 rfl ?_
    refine r_cvV (rm' := rmX11_readsPiece) C mX11_readsPiece vX11_readsPiece k1064 [] [] rfl rfl (Nat.le_of_ble_eq_true rfl) (by decide) ⟨Nat.zero_le _, Nat.zero_le _⟩ 0 0 rfl rfl dX11_readsShape_106 w (fun h4 w => ?_)
    exact (bX11_readsShape_109 C D g59 w)
def PX11_readsShape_59 (E : EV) (post : Option AV → AH → Prop) (J59 : AH → Option Nat → Prop) (h : AH) (l0 : Option Nat) : Prop :=
  rdI h l0 11 14 fun x1 => (¬ x1 = 0 → PX11_readsShape_123 E post h l0) ∧ (x1 = 0 → rdI h l0 11 13 fun x2 => rdI h l0 11 4 fun x3 => (x3 ≤ x2 → PX11_readsShape_123 E post h l0) ∧ (¬ x3 ≤ x2 → rdP h l0 11 0 fun x4 => aldI h x4 0 (500 : Int32) fun x5 => (¬ x5 = (3 : Int32) → PX11_readsShape_95 E post J59 h l0 l0 (0 : Int32)) ∧ (x5 = (3 : Int32) → PX11_readsShape_95 E post J59 h l0 l0 (1 : Int32))))
theorem bX11_readsShape_59 {E : EV} {X : AX} {post : Option AV → AH → Prop} (C : Cb E X cX11_readsShape RX11 2 rmX11_readsShape) (D : Cr E X (some .boolean) rmX11_readsShape "readsShape" post) {J59 : AH → Option Nat → Prop} (g59 : ∀ (h : AH) (l0 : Option Nat), J59 h l0 → Go E X 2 0 0 59 [(0, aP l0)] [] h) {h : AH} {l0 : Option Nat} (w : PX11_readsShape_59 E post J59 h l0) : Go E X 2 0 0 59 [(0, aP l0)] [] h := by
  unfold PX11_readsShape_59 at w
  refine r_aload_n C dX11_readsShape_59 rfl 0 rfl ?_
  refine r_getI C fcX11 (f := 14) (by decide) rfl k957 dX11_readsShape_60 (w.mono fun x1 w => ?_)
  refine r_if_ne C dX11_readsShape_63 (tgt := 123) rfl (fun hc => ?_) (fun hc => ?_)
  · have w := w.1 hc
    exact (bX11_readsShape_123 C D w)
  · have w := w.2 hc
    refine r_aload_n C dX11_readsShape_66 rfl 0 rfl ?_
    refine r_getI C fcX11 (f := 13) (by decide) rfl k956 dX11_readsShape_67 (w.mono fun x2 w => ?_)
    refine r_aload_n C dX11_readsShape_70 rfl 0 rfl ?_
    refine r_getI C fcX11 (f := 4) (by decide) rfl k947 dX11_readsShape_71 (w.mono fun x3 w => ?_)
    refine r_icmp_ge C dX11_readsShape_74 (tgt := 123) rfl (fun hc => ?_) (fun hc => ?_)
    · have w := w.1 hc
      exact (bX11_readsShape_123 C D w)
    · have w := w.2 hc
      refine r_aload_n C dX11_readsShape_77 rfl 0 rfl ?_
      refine r_aload_n C dX11_readsShape_78 rfl 0 rfl ?_
      refine r_getP C fcX11 (f := 0) (by decide) rfl k943 dX11_readsShape_79 (w.mono fun x4 w => ?_)
      refine r_sipush (v := 500) C dX11_readsShape_82 rfl ?_
      refine r_iald C dX11_readsShape_85 (w.mono fun x5 w => ?_)
      refine r_iconst (v := 3) C dX11_readsShape_86 rfl ?_
      refine r_icmp_ne C dX11_readsShape_87 (tgt := 94) rfl (fun hc => ?_) (fun hc => ?_)
      · have w := w.1 hc
        refine r_iconst (v := 0) C dX11_readsShape_94 rfl ?_
        exact (bX11_readsShape_95 C D g59 w)
      · have w := w.2 hc
        refine r_iconst (v := 1) C dX11_readsShape_90 rfl ?_
        refine r_goto C dX11_readsShape_91 (tgt := 95) rfl ?_
        exact (bX11_readsShape_95 C D g59 w)
theorem lpX11_readsShape_59 {E : EV} {X : AX} {post : Option AV → AH → Prop} (C : Cb E X cX11_readsShape RX11 2 rmX11_readsShape) (D : Cr E X (some .boolean) rmX11_readsShape "readsShape" post) (I : Nat → AH → Option Nat → Prop) (step : ∀ (z : Nat) (h : AH) (l0 : Option Nat), I z h l0 → PX11_readsShape_59 E post (fun h l0 => ∃ z', z' < z ∧ I z' h l0) h l0) : ∀ (z : Nat) (h : AH) (l0 : Option Nat), I z h l0 → Go E X 2 0 0 59 [(0, aP l0)] [] h := by
  intro z
  induction z using Nat.strongRecOn with
  | _ z ih =>
    intro h l0 hI
    exact bX11_readsShape_59 C D (fun h l0 hJ => by obtain ⟨z', hz, hi⟩ := hJ; exact ih z' hz h l0 hi) (step z h l0 hI)
def PX11_readsShape_56 (E : EV) (post : Option AV → AH → Prop) (J59 : AH → Option Nat → Prop) (h : AH) (l0 : Option Nat) (s0 : Option Nat) (s1 : Int32) : Prop :=
  (s1 = 0 ∨ s1 = 1) ∧ wr h s0 11 14 (aI s1) (fun h1 => J59 h1 l0)
theorem bX11_readsShape_56 {E : EV} {X : AX} {post : Option AV → AH → Prop} (C : Cb E X cX11_readsShape RX11 2 rmX11_readsShape) (D : Cr E X (some .boolean) rmX11_readsShape "readsShape" post) {J59 : AH → Option Nat → Prop} (g59 : ∀ (h : AH) (l0 : Option Nat), J59 h l0 → Go E X 2 0 0 59 [(0, aP l0)] [] h) {h : AH} {l0 : Option Nat} {s0 : Option Nat} {s1 : Int32} (w : PX11_readsShape_56 E post J59 h l0 s0 s1) : Go E X 2 0 0 56 [(0, aP l0)] [aI s1, aP s0] h := by
  unfold PX11_readsShape_56 at w
  have hz := w.1
  have w := w.2
  refine r_put C fcX11 (f := 14) (by decide) rfl rfl (nr_Z hz) (ft_Z hz) k957 dX11_readsShape_56 (w.mono fun h1 w => ?_)
  exact (g59 h1 l0 w)
def PX11_readsShape_2 (E : EV) (post : Option AV → AH → Prop) (J2 : AH → Option Nat → Int32 → Prop) (J59 : AH → Option Nat → Prop) (h : AH) (l0 : Option Nat) (l1 : Int32) : Prop :=
  ((40 : Int32) ≤ l1 → wr h l0 11 13 (aI (0 : Int32)) fun h1 => wr h1 l0 11 14 (aI (0 : Int32)) fun h2 => CV (sX11_skip E) l0 11 [] h2 (kV fun h4 => rdI h4 l0 11 13 fun x5 => rdI h4 l0 11 4 fun x6 => (¬ x5 = x6 → PX11_readsShape_56 E post J59 h4 l0 l0 (0 : Int32)) ∧ (x5 = x6 → PX11_readsShape_56 E post J59 h4 l0 l0 (1 : Int32)))) ∧ (¬ (40 : Int32) ≤ l1 → rdP h l0 11 0 fun x1 => astI h x1 0 ((500 : Int32) + l1) (0 : Int32) fun h2 => J2 h2 l0 (l1 + (1 : Int32)))
theorem bX11_readsShape_2 {E : EV} {X : AX} {post : Option AV → AH → Prop} (C : Cb E X cX11_readsShape RX11 2 rmX11_readsShape) (D : Cr E X (some .boolean) rmX11_readsShape "readsShape" post) {J2 : AH → Option Nat → Int32 → Prop} (g2 : ∀ (h : AH) (l0 : Option Nat) (l1 : Int32), J2 h l0 l1 → Go E X 2 0 0 2 [(0, aP l0), (1, aI l1)] [] h) {J59 : AH → Option Nat → Prop} (g59 : ∀ (h : AH) (l0 : Option Nat), J59 h l0 → Go E X 2 0 0 59 [(0, aP l0)] [] h) {h : AH} {l0 : Option Nat} {l1 : Int32} (w : PX11_readsShape_2 E post J2 J59 h l0 l1) : Go E X 2 0 0 2 [(0, aP l0), (1, aI l1)] [] h := by
  unfold PX11_readsShape_2 at w
  refine r_iload_n C dX11_readsShape_2 rfl 1 rfl ?_
  refine r_bipush (v := 40) C dX11_readsShape_3 rfl ?_
  refine r_icmp_ge C dX11_readsShape_5 (tgt := 25) rfl (fun hc => ?_) (fun hc => ?_)
  · have w := w.1 hc
    refine r_aload_n C dX11_readsShape_25 rfl 0 rfl ?_
    refine r_iconst (v := 0) C dX11_readsShape_26 rfl ?_
    refine r_put C fcX11 (f := 13) (by decide) rfl rfl rfl rfl k956 dX11_readsShape_27 (w.mono fun h1 w => ?_)
    refine r_aload_n C dX11_readsShape_30 rfl 0 rfl ?_
    refine r_iconst (v := 0) C dX11_readsShape_31 rfl ?_
    refine r_put C fcX11 (f := 14) (by decide) rfl rfl rfl rfl k957 dX11_readsShape_32 (w.mono fun h2 w => ?_)
    refine r_aload_n C dX11_readsShape_35 rfl 0 rfl ?_
    refine r_cvV (rm' := rmX11_skip) C mX11_skip vX11_skip k1056 [] [] rfl rfl (Nat.le_of_ble_eq_true rfl) (by decide) ⟨Nat.zero_le _, Nat.zero_le _⟩ 0 0 rfl rfl dX11_readsShape_36 w (fun h4 w => ?_)
    refine r_aload_n C dX11_readsShape_39 rfl 0 rfl ?_
    refine r_aload_n C dX11_readsShape_40 rfl 0 rfl ?_
    refine r_getI C fcX11 (f := 13) (by decide) rfl k956 dX11_readsShape_41 (w.mono fun x5 w => ?_)
    refine r_aload_n C dX11_readsShape_44 rfl 0 rfl ?_
    refine r_getI C fcX11 (f := 4) (by decide) rfl k947 dX11_readsShape_45 (w.mono fun x6 w => ?_)
    refine r_icmp_ne C dX11_readsShape_48 (tgt := 55) rfl (fun hc => ?_) (fun hc => ?_)
    · have w := w.1 hc
      refine r_iconst (v := 0) C dX11_readsShape_55 rfl ?_
      exact r_sub [0] rfl (bX11_readsShape_56 C D g59 w)
    · have w := w.2 hc
      refine r_iconst (v := 1) C dX11_readsShape_51 rfl ?_
      refine r_goto C dX11_readsShape_52 (tgt := 56) rfl ?_
      exact r_sub [0] rfl (bX11_readsShape_56 C D g59 w)
  · have w := w.2 hc
    refine r_aload_n C dX11_readsShape_8 rfl 0 rfl ?_
    refine r_getP C fcX11 (f := 0) (by decide) rfl k943 dX11_readsShape_9 (w.mono fun x1 w => ?_)
    refine r_sipush (v := 500) C dX11_readsShape_12 rfl ?_
    refine r_iload_n C dX11_readsShape_15 rfl 1 rfl ?_
    refine r_iadd C dX11_readsShape_16 ?_
    refine r_iconst (v := 0) C dX11_readsShape_17 rfl ?_
    refine r_iast C dX11_readsShape_18 (w.mono fun h2 w => ?_)
    refine r_iinc C dX11_readsShape_19 1 rfl (v := 1) rfl (by decide) rfl ?_
    refine r_goto C dX11_readsShape_22 (tgt := 2) rfl ?_
    exact r_sub [1, 0] rfl (g2 h2 l0 (l1 + (1 : Int32)) w)
theorem lpX11_readsShape_2 {E : EV} {X : AX} {post : Option AV → AH → Prop} (C : Cb E X cX11_readsShape RX11 2 rmX11_readsShape) (D : Cr E X (some .boolean) rmX11_readsShape "readsShape" post) {J59 : AH → Option Nat → Prop} (g59 : ∀ (h : AH) (l0 : Option Nat), J59 h l0 → Go E X 2 0 0 59 [(0, aP l0)] [] h) (I : Nat → AH → Option Nat → Int32 → Prop) (step : ∀ (z : Nat) (h : AH) (l0 : Option Nat) (l1 : Int32), I z h l0 l1 → PX11_readsShape_2 E post (fun h l0 l1 => ∃ z', z' < z ∧ I z' h l0 l1) J59 h l0 l1) : ∀ (z : Nat) (h : AH) (l0 : Option Nat) (l1 : Int32), I z h l0 l1 → Go E X 2 0 0 2 [(0, aP l0), (1, aI l1)] [] h := by
  intro z
  induction z using Nat.strongRecOn with
  | _ z ih =>
    intro h l0 l1 hI
    exact bX11_readsShape_2 C D (fun h l0 l1 hJ => by obtain ⟨z', hz, hi⟩ := hJ; exact ih z' hz h l0 l1 hi) g59 (step z h l0 l1 hI)
def PX11_readsShape_0 (E : EV) (post : Option AV → AH → Prop) (J2 : AH → Option Nat → Int32 → Prop) (h : AH) (l0 : Option Nat) : Prop :=
  J2 h l0 (0 : Int32)
theorem bX11_readsShape_0 {E : EV} {X : AX} {post : Option AV → AH → Prop} (C : Cb E X cX11_readsShape RX11 2 rmX11_readsShape) (D : Cr E X (some .boolean) rmX11_readsShape "readsShape" post) {J2 : AH → Option Nat → Int32 → Prop} (g2 : ∀ (h : AH) (l0 : Option Nat) (l1 : Int32), J2 h l0 l1 → Go E X 2 0 0 2 [(0, aP l0), (1, aI l1)] [] h) {h : AH} {l0 : Option Nat} (w : PX11_readsShape_0 E post J2 h l0) : Go E X 2 0 0 0 [(0, aP l0)] [] h := by
  unfold PX11_readsShape_0 at w
  refine r_iconst (v := 0) C dX11_readsShape_0 rfl ?_
  refine r_istore_n C dX11_readsShape_1 rfl (by decide) rfl ?_
  exact r_sub [1, 0] rfl (g2 h l0 (0 : Int32) w)
theorem eX11_readsShape {E : EV} {post : Option AV → AH → Prop} {h : AH} {l0 : Option Nat} {J2 : AH → Option Nat → Int32 → Prop} (g2 : ∀ X : AX, Cb E X cX11_readsShape RX11 2 rmX11_readsShape → Cr E X (some .boolean) rmX11_readsShape "readsShape" post → ∀ (h : AH) (l0 : Option Nat) (l1 : Int32), J2 h l0 l1 → Go E X 2 0 0 2 [(0, aP l0), (1, aI l1)] [] h) (w : PX11_readsShape_0 E post J2 h l0) : sX11_readsShape E [aP l0] h post := Spec.of RX11 rfl rfl (Nat.le_of_ble_eq_true rfl) fun X C D => bX11_readsShape_0 C D (g2 X C D) w
theorem dX11_loadShape_0 : decode cX11_loadShape 0 = .ok (.iload_n 1, 1) := by decide +kernel
theorem dX11_loadShape_1 : decode cX11_loadShape 1 = .ok (.invokestatic 182, 3) := by decide +kernel
theorem dX11_loadShape_4 : decode cX11_loadShape 4 = .ok (.ifCond .ne 6, 3) := by decide +kernel
theorem dX11_loadShape_7 : decode cX11_loadShape 7 = .ok (.ldc 145, 2) := by decide +kernel
theorem dX11_loadShape_9 : decode cX11_loadShape 9 = .ok (.ireturn, 1) := by decide +kernel
theorem dX11_loadShape_10 : decode cX11_loadShape 10 = .ok (.aload_n 0, 1) := by decide +kernel
theorem dX11_loadShape_11 : decode cX11_loadShape 11 = .ok (.invokevirtual 185, 3) := by decide +kernel
theorem dX11_loadShape_14 : decode cX11_loadShape 14 = .ok (.ifCond .ne 11, 3) := by decide +kernel
theorem dX11_loadShape_17 : decode cX11_loadShape 17 = .ok (.bipush (-10), 2) := by decide +kernel
theorem dX11_loadShape_19 : decode cX11_loadShape 19 = .ok (.aload_n 0, 1) := by decide +kernel
theorem dX11_loadShape_20 : decode cX11_loadShape 20 = .ok (.getfield 150, 3) := by decide +kernel
theorem dX11_loadShape_23 : decode cX11_loadShape 23 = .ok (.isub, 1) := by decide +kernel
theorem dX11_loadShape_24 : decode cX11_loadShape 24 = .ok (.ireturn, 1) := by decide +kernel
theorem dX11_loadShape_25 : decode cX11_loadShape 25 = .ok (.aload_n 0, 1) := by decide +kernel
theorem dX11_loadShape_26 : decode cX11_loadShape 26 = .ok (.invokevirtual 188, 3) := by decide +kernel
theorem dX11_loadShape_29 : decode cX11_loadShape 29 = .ok (.aload_n 0, 1) := by decide +kernel
theorem dX11_loadShape_30 : decode cX11_loadShape 30 = .ok (.sipush 500, 3) := by decide +kernel
theorem dX11_loadShape_33 : decode cX11_loadShape 33 = .ok (.iload_n 1, 1) := by decide +kernel
theorem dX11_loadShape_34 : decode cX11_loadShape 34 = .ok (.invokestatic 50, 3) := by decide +kernel
theorem dX11_loadShape_37 : decode cX11_loadShape 37 = .ok (.invokevirtual 191, 3) := by decide +kernel
theorem dX11_loadShape_40 : decode cX11_loadShape 40 = .ok (.aload_n 0, 1) := by decide +kernel
theorem dX11_loadShape_41 : decode cX11_loadShape 41 = .ok (.iconst 0, 1) := by decide +kernel
theorem dX11_loadShape_42 : decode cX11_loadShape 42 = .ok (.putfield 146, 3) := by decide +kernel
theorem dX11_loadShape_45 : decode cX11_loadShape 45 = .ok (.aload_n 0, 1) := by decide +kernel
theorem dX11_loadShape_46 : decode cX11_loadShape 46 = .ok (.getfield 7, 3) := by decide +kernel
theorem dX11_loadShape_49 : decode cX11_loadShape 49 = .ok (.sipush 500, 3) := by decide +kernel
theorem dX11_loadShape_52 : decode cX11_loadShape 52 = .ok (.iaload, 1) := by decide +kernel
theorem dX11_loadShape_53 : decode cX11_loadShape 53 = .ok (.ireturn, 1) := by decide +kernel
abbrev rmX11_loadShape : Room := { frames := 5, cells := 0, slots := 0, locals := 200 }
abbrev sX11_loadShape (E : EV) : List AV → AH → (Option AV → AH → Prop) → Prop := Spec E yX11_loadShape cX11_loadShape 2 (some .int) rmX11_loadShape
theorem mX11_loadShape : Mt yX11_loadShape cX11_loadShape 2 (some .int) 1 := ⟨k1048, k12, by decide +kernel⟩
theorem vX11_loadShape : MtV yX11_loadShape 11 := ⟨k1046, k1047, by decide, (RX11, TX11, 26), rfl, rfl⟩
def PX11_loadShape_0 (E : EV) (post : Option AV → AH → Prop) (h : AH) (l0 : Option Nat) (l1 : Int32) : Prop :=
  CS (sX11_isSlot E) [aI l1] h (kI fun x1 h2 => (¬ x1 = 0 → CV (sX11_readsShape E) l0 11 [] h2 (kI fun x3 h4 => (¬ x3 = 0 → CV (sX11_note E) l0 11 [] h4 (kV fun h6 => CS (sX11_slotAt E) [aI l1] h6 (kI fun x7 h8 => CV (sX11_copy E) l0 11 [aI (500 : Int32), aI x7] h8 (kV fun h10 => wr h10 l0 11 4 (aI (0 : Int32)) fun h11 => rdP h11 l0 11 0 fun x12 => aldI h11 x12 0 (500 : Int32) fun x13 => post (some (aI x13)) h11)))) ∧ (x3 = 0 → rdI h4 l0 11 13 fun x5 => post (some (aI ((-10 : Int32) - x5))) h4))) ∧ (x1 = 0 → post (some (aI (-1000001 : Int32))) h2))
theorem bX11_loadShape_0 {E : EV} {X : AX} {post : Option AV → AH → Prop} (C : Cb E X cX11_loadShape RX11 2 rmX11_loadShape) (D : Cr E X (some .int) rmX11_loadShape "loadShape" post) {h : AH} {l0 : Option Nat} {l1 : Int32} (w : PX11_loadShape_0 E post h l0 l1) : Go E X 2 0 0 0 [(0, aP l0), (1, aI l1)] [] h := by
  unfold PX11_loadShape_0 at w
  refine r_iload_n C dX11_loadShape_0 rfl 1 rfl ?_
  refine r_csI (rm' := rmX11_isSlot) C mX11_isSlot vX11_isSlot k1049 [aI l1] [] rfl rfl (Nat.le_of_ble_eq_true rfl) (by decide) ⟨Nat.zero_le _, Nat.zero_le _⟩ 0 0 rfl rfl dX11_loadShape_1 w (fun x1 h2 w => ?_)
  refine r_if_ne C dX11_loadShape_4 (tgt := 10) rfl (fun hc => ?_) (fun hc => ?_)
  · have w := w.1 hc
    refine r_aload_n C dX11_loadShape_10 rfl 0 rfl ?_
    refine r_cvI (rm' := rmX11_readsShape) C mX11_readsShape vX11_readsShape k1052 [] [] rfl rfl (Nat.le_of_ble_eq_true rfl) (by decide) ⟨Nat.zero_le _, Nat.zero_le _⟩ 0 0 rfl rfl dX11_loadShape_11 w (fun x3 h4 w => ?_)
    refine r_if_ne C dX11_loadShape_14 (tgt := 25) rfl (fun hc => ?_) (fun hc => ?_)
    · have w := w.1 hc
      refine r_aload_n C dX11_loadShape_25 rfl 0 rfl ?_
      refine r_cvV (rm' := rmX11_note) C mX11_note vX11_note k1096 [] [] rfl rfl (Nat.le_of_ble_eq_true rfl) (by decide) ⟨Nat.zero_le _, Nat.zero_le _⟩ 0 0 rfl rfl dX11_loadShape_26 w (fun h6 w => ?_)
      refine r_aload_n C dX11_loadShape_29 rfl 0 rfl ?_
      refine r_sipush (v := 500) C dX11_loadShape_30 rfl ?_
      refine r_iload_n C dX11_loadShape_33 rfl 1 rfl ?_
      refine r_csI (rm' := rmX11_slotAt) C mX11_slotAt vX11_slotAt k1100 [aI l1] [aI (500 : Int32), aP l0] rfl rfl (Nat.le_of_ble_eq_true rfl) (by decide) ⟨Nat.zero_le _, Nat.zero_le _⟩ 0 0 rfl rfl dX11_loadShape_34 w (fun x7 h8 w => ?_)
      refine r_cvV (rm' := rmX11_copy) C mX11_copy vX11_copy k1103 [aI (500 : Int32), aI x7] [] rfl rfl (Nat.le_of_ble_eq_true rfl) (by decide) ⟨Nat.zero_le _, Nat.zero_le _⟩ 0 0 rfl rfl dX11_loadShape_37 w (fun h10 w => ?_)
      refine r_aload_n C dX11_loadShape_40 rfl 0 rfl ?_
      refine r_iconst (v := 0) C dX11_loadShape_41 rfl ?_
      refine r_put C fcX11 (f := 4) (by decide) rfl rfl rfl rfl k947 dX11_loadShape_42 (w.mono fun h11 w => ?_)
      refine r_aload_n C dX11_loadShape_45 rfl 0 rfl ?_
      refine r_getP C fcX11 (f := 0) (by decide) rfl k943 dX11_loadShape_46 (w.mono fun x12 w => ?_)
      refine r_sipush (v := 500) C dX11_loadShape_49 rfl ?_
      refine r_iald C dX11_loadShape_52 (w.mono fun x13 w => ?_)
      exact r_iret C D rfl (Nat.zero_le _) (Nat.zero_le _) dX11_loadShape_53 w
    · have w := w.2 hc
      refine r_bipush (v := -10) C dX11_loadShape_17 rfl ?_
      refine r_aload_n C dX11_loadShape_19 rfl 0 rfl ?_
      refine r_getI C fcX11 (f := 13) (by decide) rfl k956 dX11_loadShape_20 (w.mono fun x5 w => ?_)
      refine r_isub C dX11_loadShape_23 ?_
      exact r_iret C D rfl (Nat.zero_le _) (Nat.zero_le _) dX11_loadShape_24 w
  · have w := w.2 hc
    refine r_ldc (v := -1000001) C dX11_loadShape_7 k1039 ?_
    exact r_iret C D rfl (Nat.zero_le _) (Nat.zero_le _) dX11_loadShape_9 w
theorem eX11_loadShape {E : EV} {post : Option AV → AH → Prop} {h : AH} {l0 : Option Nat} {l1 : Int32} (w : PX11_loadShape_0 E post h l0 l1) : sX11_loadShape E [aP l0, aI l1] h post := Spec.of RX11 rfl rfl (Nat.le_of_ble_eq_true rfl) fun X C D => bX11_loadShape_0 C D w
theorem dX11_packedDoubleArea_0 : decode cX11_packedDoubleArea 0 = .ok (.iconst 0, 1) := by decide +kernel
theorem dX11_packedDoubleArea_1 : decode cX11_packedDoubleArea 1 = .ok (.istore_n 1, 1) := by decide +kernel
theorem dX11_packedDoubleArea_2 : decode cX11_packedDoubleArea 2 = .ok (.iconst 0, 1) := by decide +kernel
theorem dX11_packedDoubleArea_3 : decode cX11_packedDoubleArea 3 = .ok (.istore_n 2, 1) := by decide +kernel
theorem dX11_packedDoubleArea_4 : decode cX11_packedDoubleArea 4 = .ok (.iload_n 2, 1) := by decide +kernel
theorem dX11_packedDoubleArea_5 : decode cX11_packedDoubleArea 5 = .ok (.aload_n 0, 1) := by decide +kernel
theorem dX11_packedDoubleArea_6 : decode cX11_packedDoubleArea 6 = .ok (.getfield 7, 3) := by decide +kernel
theorem dX11_packedDoubleArea_9 : decode cX11_packedDoubleArea 9 = .ok (.iconst 3, 1) := by decide +kernel
theorem dX11_packedDoubleArea_10 : decode cX11_packedDoubleArea 10 = .ok (.iaload, 1) := by decide +kernel
theorem dX11_packedDoubleArea_11 : decode cX11_packedDoubleArea 11 = .ok (.if_icmp .ge 41, 3) := by decide +kernel
theorem dX11_packedDoubleArea_14 : decode cX11_packedDoubleArea 14 = .ok (.iconst 0, 1) := by decide +kernel
theorem dX11_packedDoubleArea_15 : decode cX11_packedDoubleArea 15 = .ok (.istore_n 3, 1) := by decide +kernel
theorem dX11_packedDoubleArea_16 : decode cX11_packedDoubleArea 16 = .ok (.iload_n 3, 1) := by decide +kernel
theorem dX11_packedDoubleArea_17 : decode cX11_packedDoubleArea 17 = .ok (.aload_n 0, 1) := by decide +kernel
theorem dX11_packedDoubleArea_18 : decode cX11_packedDoubleArea 18 = .ok (.iload_n 2, 1) := by decide +kernel
theorem dX11_packedDoubleArea_19 : decode cX11_packedDoubleArea 19 = .ok (.invokestatic 257, 3) := by decide +kernel
theorem dX11_packedDoubleArea_22 : decode cX11_packedDoubleArea 22 = .ok (.invokevirtual 66, 3) := by decide +kernel
theorem dX11_packedDoubleArea_25 : decode cX11_packedDoubleArea 25 = .ok (.if_icmp .ge 21, 3) := by decide +kernel
theorem dX11_packedDoubleArea_28 : decode cX11_packedDoubleArea 28 = .ok (.iload_n 1, 1) := by decide +kernel
theorem dX11_packedDoubleArea_29 : decode cX11_packedDoubleArea 29 = .ok (.aload_n 0, 1) := by decide +kernel
theorem dX11_packedDoubleArea_30 : decode cX11_packedDoubleArea 30 = .ok (.iload_n 2, 1) := by decide +kernel
theorem dX11_packedDoubleArea_31 : decode cX11_packedDoubleArea 31 = .ok (.invokestatic 257, 3) := by decide +kernel
theorem dX11_packedDoubleArea_34 : decode cX11_packedDoubleArea 34 = .ok (.iload_n 3, 1) := by decide +kernel
theorem dX11_packedDoubleArea_35 : decode cX11_packedDoubleArea 35 = .ok (.invokevirtual 205, 3) := by decide +kernel
theorem dX11_packedDoubleArea_38 : decode cX11_packedDoubleArea 38 = .ok (.iadd, 1) := by decide +kernel
theorem dX11_packedDoubleArea_39 : decode cX11_packedDoubleArea 39 = .ok (.istore_n 1, 1) := by decide +kernel
theorem dX11_packedDoubleArea_40 : decode cX11_packedDoubleArea 40 = .ok (.iinc 3 1, 3) := by decide +kernel
theorem dX11_packedDoubleArea_43 : decode cX11_packedDoubleArea 43 = .ok (.goto (-27), 3) := by decide +kernel
theorem dX11_packedDoubleArea_46 : decode cX11_packedDoubleArea 46 = .ok (.iinc 2 1, 3) := by decide +kernel
theorem dX11_packedDoubleArea_49 : decode cX11_packedDoubleArea 49 = .ok (.goto (-45), 3) := by decide +kernel
theorem dX11_packedDoubleArea_52 : decode cX11_packedDoubleArea 52 = .ok (.iload_n 1, 1) := by decide +kernel
theorem dX11_packedDoubleArea_53 : decode cX11_packedDoubleArea 53 = .ok (.ireturn, 1) := by decide +kernel
abbrev rmX11_packedDoubleArea : Room := { frames := 2, cells := 0, slots := 0, locals := 80 }
abbrev sX11_packedDoubleArea (E : EV) : List AV → AH → (Option AV → AH → Prop) → Prop := Spec E yX11_packedDoubleArea cX11_packedDoubleArea 4 (some .int) rmX11_packedDoubleArea
theorem mX11_packedDoubleArea : Mt yX11_packedDoubleArea cX11_packedDoubleArea 4 (some .int) 0 := ⟨k1416, k12, by decide +kernel⟩
theorem vX11_packedDoubleArea : MtV yX11_packedDoubleArea 11 := ⟨k1414, k1415, by decide, (RX11, TX11, 26), rfl, rfl⟩
def PX11_packedDoubleArea_16 (E : EV) (post : Option AV → AH → Prop) (J4 : AH → Option Nat → Int32 → Int32 → Prop) (J16 : AH → Option Nat → Int32 → Int32 → Int32 → Prop) (h : AH) (l0 : Option Nat) (l1 : Int32) (l2 : Int32) (l3 : Int32) : Prop :=
  CS (sX11_itemShape E) [aI l2] h (kI fun x1 h2 => CV (sX11_pieces E) l0 11 [aI x1] h2 (kI fun x3 h4 => (x3 ≤ l3 → J4 h4 l0 l1 (l2 + (1 : Int32))) ∧ (¬ x3 ≤ l3 → CS (sX11_itemShape E) [aI l2] h4 (kI fun x5 h6 => CV (sX11_doubleAreaOf E) l0 11 [aI x5, aI l3] h6 (kI fun x7 h8 => ∀ v9, v9 = (l1 + x7) → J16 h8 l0 v9 l2 (l3 + (1 : Int32)))))))
theorem bX11_packedDoubleArea_16 {E : EV} {X : AX} {post : Option AV → AH → Prop} (C : Cb E X cX11_packedDoubleArea RX11 4 rmX11_packedDoubleArea) (D : Cr E X (some .int) rmX11_packedDoubleArea "packedDoubleArea" post) {J4 : AH → Option Nat → Int32 → Int32 → Prop} (g4 : ∀ (h : AH) (l0 : Option Nat) (l1 : Int32) (l2 : Int32), J4 h l0 l1 l2 → Go E X 4 0 0 4 [(0, aP l0), (1, aI l1), (2, aI l2)] [] h) {J16 : AH → Option Nat → Int32 → Int32 → Int32 → Prop} (g16 : ∀ (h : AH) (l0 : Option Nat) (l1 : Int32) (l2 : Int32) (l3 : Int32), J16 h l0 l1 l2 l3 → Go E X 4 0 0 16 [(0, aP l0), (1, aI l1), (2, aI l2), (3, aI l3)] [] h) {h : AH} {l0 : Option Nat} {l1 : Int32} {l2 : Int32} {l3 : Int32} (w : PX11_packedDoubleArea_16 E post J4 J16 h l0 l1 l2 l3) : Go E X 4 0 0 16 [(0, aP l0), (1, aI l1), (2, aI l2), (3, aI l3)] [] h := by
  unfold PX11_packedDoubleArea_16 at w
  refine r_iload_n C dX11_packedDoubleArea_16 rfl 3 rfl ?_
  refine r_aload_n C dX11_packedDoubleArea_17 rfl 0 rfl ?_
  refine r_iload_n C dX11_packedDoubleArea_18 rfl 2 rfl ?_
  refine r_csI (rm' := rmX11_itemShape) C mX11_itemShape vX11_itemShape k1281 [aI l2] [aP l0, aI l3] rfl rfl (Nat.le_of_ble_eq_true rfl) (by decide) ⟨Nat.zero_le _, Nat.zero_le _⟩ 0 0 rfl rfl dX11_packedDoubleArea_19 w (fun x1 h2 w => ?_)
  refine r_cvI (rm' := rmX11_pieces) C mX11_pieces vX11_pieces k1115 [aI x1] [aI l3] rfl rfl (Nat.le_of_ble_eq_true rfl) (by decide) ⟨Nat.zero_le _, Nat.zero_le _⟩ 0 0 rfl rfl dX11_packedDoubleArea_22 w (fun x3 h4 w => ?_)
  refine r_icmp_ge C dX11_packedDoubleArea_25 (tgt := 46) rfl (fun hc => ?_) (fun hc => ?_)
  · have w := w.1 hc
    refine r_iinc C dX11_packedDoubleArea_46 2 rfl (v := 1) rfl (by decide) rfl ?_
    refine r_goto C dX11_packedDoubleArea_49 (tgt := 4) rfl ?_
    exact r_sub [1, 2, 0] rfl (g4 h4 l0 l1 (l2 + (1 : Int32)) w)
  · have w := w.2 hc
    refine r_iload_n C dX11_packedDoubleArea_28 rfl 1 rfl ?_
    refine r_aload_n C dX11_packedDoubleArea_29 rfl 0 rfl ?_
    refine r_iload_n C dX11_packedDoubleArea_30 rfl 2 rfl ?_
    refine r_csI (rm' := rmX11_itemShape) C mX11_itemShape vX11_itemShape k1281 [aI l2] [aP l0, aI l1] rfl rfl (Nat.le_of_ble_eq_true rfl) (by decide) ⟨Nat.zero_le _, Nat.zero_le _⟩ 0 0 rfl rfl dX11_packedDoubleArea_31 w (fun x5 h6 w => ?_)
    refine r_iload_n C dX11_packedDoubleArea_34 rfl 3 rfl ?_
    refine r_cvI (rm' := rmX11_doubleAreaOf) C mX11_doubleAreaOf vX11_doubleAreaOf k1139 [aI x5, aI l3] [aI l1] rfl rfl (Nat.le_of_ble_eq_true rfl) (by decide) ⟨Nat.zero_le _, Nat.zero_le _⟩ 0 0 rfl rfl dX11_packedDoubleArea_35 w (fun x7 h8 w => ?_)
    refine r_iadd C dX11_packedDoubleArea_38 ?_
    refine r_istore_n C dX11_packedDoubleArea_39 rfl (by decide) rfl ?_
    have w := w _ rfl
    skip
    refine r_iinc C dX11_packedDoubleArea_40 3 rfl (v := 1) rfl (by decide) rfl ?_
    refine r_goto C dX11_packedDoubleArea_43 (tgt := 16) rfl ?_
    exact r_sub [2, 1, 3, 0] rfl (g16 h8 l0 (l1 + x7) l2 (l3 + (1 : Int32)) w)
theorem lpX11_packedDoubleArea_16 {E : EV} {X : AX} {post : Option AV → AH → Prop} (C : Cb E X cX11_packedDoubleArea RX11 4 rmX11_packedDoubleArea) (D : Cr E X (some .int) rmX11_packedDoubleArea "packedDoubleArea" post) {J4 : AH → Option Nat → Int32 → Int32 → Prop} (g4 : ∀ (h : AH) (l0 : Option Nat) (l1 : Int32) (l2 : Int32), J4 h l0 l1 l2 → Go E X 4 0 0 4 [(0, aP l0), (1, aI l1), (2, aI l2)] [] h) (I : Nat → AH → Option Nat → Int32 → Int32 → Int32 → Prop) (step : ∀ (z : Nat) (h : AH) (l0 : Option Nat) (l1 : Int32) (l2 : Int32) (l3 : Int32), I z h l0 l1 l2 l3 → PX11_packedDoubleArea_16 E post J4 (fun h l0 l1 l2 l3 => ∃ z', z' < z ∧ I z' h l0 l1 l2 l3) h l0 l1 l2 l3) : ∀ (z : Nat) (h : AH) (l0 : Option Nat) (l1 : Int32) (l2 : Int32) (l3 : Int32), I z h l0 l1 l2 l3 → Go E X 4 0 0 16 [(0, aP l0), (1, aI l1), (2, aI l2), (3, aI l3)] [] h := by
  intro z
  induction z using Nat.strongRecOn with
  | _ z ih =>
    intro h l0 l1 l2 l3 hI
    exact bX11_packedDoubleArea_16 C D g4 (fun h l0 l1 l2 l3 hJ => by obtain ⟨z', hz, hi⟩ := hJ; exact ih z' hz h l0 l1 l2 l3 hi) (step z h l0 l1 l2 l3 hI)
def PX11_packedDoubleArea_4 (E : EV) (post : Option AV → AH → Prop) (J16 : AH → Option Nat → Int32 → Int32 → Int32 → Prop) (h : AH) (l0 : Option Nat) (l1 : Int32) (l2 : Int32) : Prop :=
  rdP h l0 11 0 fun x1 => aldI h x1 0 (3 : Int32) fun x2 => (x2 ≤ l2 → post (some (aI l1)) h) ∧ (¬ x2 ≤ l2 → J16 h l0 l1 l2 (0 : Int32))
theorem bX11_packedDoubleArea_4 {E : EV} {X : AX} {post : Option AV → AH → Prop} (C : Cb E X cX11_packedDoubleArea RX11 4 rmX11_packedDoubleArea) (D : Cr E X (some .int) rmX11_packedDoubleArea "packedDoubleArea" post) {J16 : AH → Option Nat → Int32 → Int32 → Int32 → Prop} (g16 : ∀ (h : AH) (l0 : Option Nat) (l1 : Int32) (l2 : Int32) (l3 : Int32), J16 h l0 l1 l2 l3 → Go E X 4 0 0 16 [(0, aP l0), (1, aI l1), (2, aI l2), (3, aI l3)] [] h) {h : AH} {l0 : Option Nat} {l1 : Int32} {l2 : Int32} (w : PX11_packedDoubleArea_4 E post J16 h l0 l1 l2) : Go E X 4 0 0 4 [(0, aP l0), (1, aI l1), (2, aI l2)] [] h := by
  unfold PX11_packedDoubleArea_4 at w
  refine r_iload_n C dX11_packedDoubleArea_4 rfl 2 rfl ?_
  refine r_aload_n C dX11_packedDoubleArea_5 rfl 0 rfl ?_
  refine r_getP C fcX11 (f := 0) (by decide) rfl k943 dX11_packedDoubleArea_6 (w.mono fun x1 w => ?_)
  refine r_iconst (v := 3) C dX11_packedDoubleArea_9 rfl ?_
  refine r_iald C dX11_packedDoubleArea_10 (w.mono fun x2 w => ?_)
  refine r_icmp_ge C dX11_packedDoubleArea_11 (tgt := 52) rfl (fun hc => ?_) (fun hc => ?_)
  · have w := w.1 hc
    refine r_iload_n C dX11_packedDoubleArea_52 rfl 1 rfl ?_
    exact r_iret C D rfl (Nat.zero_le _) (Nat.zero_le _) dX11_packedDoubleArea_53 w
  · have w := w.2 hc
    refine r_iconst (v := 0) C dX11_packedDoubleArea_14 rfl ?_
    refine r_istore_n C dX11_packedDoubleArea_15 rfl (by decide) rfl ?_
    exact r_sub [1, 2, 3, 0] rfl (g16 h l0 l1 l2 (0 : Int32) w)
def PX11_packedDoubleArea_0 (E : EV) (post : Option AV → AH → Prop) (J4 : AH → Option Nat → Int32 → Int32 → Prop) (h : AH) (l0 : Option Nat) : Prop :=
  J4 h l0 (0 : Int32) (0 : Int32)
theorem bX11_packedDoubleArea_0 {E : EV} {X : AX} {post : Option AV → AH → Prop} (C : Cb E X cX11_packedDoubleArea RX11 4 rmX11_packedDoubleArea) (D : Cr E X (some .int) rmX11_packedDoubleArea "packedDoubleArea" post) {J4 : AH → Option Nat → Int32 → Int32 → Prop} (g4 : ∀ (h : AH) (l0 : Option Nat) (l1 : Int32) (l2 : Int32), J4 h l0 l1 l2 → Go E X 4 0 0 4 [(0, aP l0), (1, aI l1), (2, aI l2)] [] h) {h : AH} {l0 : Option Nat} (w : PX11_packedDoubleArea_0 E post J4 h l0) : Go E X 4 0 0 0 [(0, aP l0)] [] h := by
  unfold PX11_packedDoubleArea_0 at w
  refine r_iconst (v := 0) C dX11_packedDoubleArea_0 rfl ?_
  refine r_istore_n C dX11_packedDoubleArea_1 rfl (by decide) rfl ?_
  refine r_iconst (v := 0) C dX11_packedDoubleArea_2 rfl ?_
  refine r_istore_n C dX11_packedDoubleArea_3 rfl (by decide) rfl ?_
  exact r_sub [2, 1, 0] rfl (g4 h l0 (0 : Int32) (0 : Int32) w)
theorem eX11_packedDoubleArea {E : EV} {post : Option AV → AH → Prop} {h : AH} {l0 : Option Nat} {J4 : AH → Option Nat → Int32 → Int32 → Prop} (g4 : ∀ X : AX, Cb E X cX11_packedDoubleArea RX11 4 rmX11_packedDoubleArea → Cr E X (some .int) rmX11_packedDoubleArea "packedDoubleArea" post → ∀ (h : AH) (l0 : Option Nat) (l1 : Int32) (l2 : Int32), J4 h l0 l1 l2 → Go E X 4 0 0 4 [(0, aP l0), (1, aI l1), (2, aI l2)] [] h) (w : PX11_packedDoubleArea_0 E post J4 h l0) : sX11_packedDoubleArea E [aP l0] h post := Spec.of RX11 rfl rfl (Nat.le_of_ble_eq_true rfl) fun X C D => bX11_packedDoubleArea_0 C D (g4 X C D) w
theorem dX11_pieceCount_0 : decode cX11_pieceCount 0 = .ok (.iload_n 1, 1) := by decide +kernel
theorem dX11_pieceCount_1 : decode cX11_pieceCount 1 = .ok (.invokestatic 182, 3) := by decide +kernel
theorem dX11_pieceCount_4 : decode cX11_pieceCount 4 = .ok (.ifCond .eq 14, 3) := by decide +kernel
theorem dX11_pieceCount_7 : decode cX11_pieceCount 7 = .ok (.aload_n 0, 1) := by decide +kernel
theorem dX11_pieceCount_8 : decode cX11_pieceCount 8 = .ok (.iload_n 1, 1) := by decide +kernel
theorem dX11_pieceCount_9 : decode cX11_pieceCount 9 = .ok (.invokestatic 50, 3) := by decide +kernel
theorem dX11_pieceCount_12 : decode cX11_pieceCount 12 = .ok (.invokevirtual 66, 3) := by decide +kernel
theorem dX11_pieceCount_15 : decode cX11_pieceCount 15 = .ok (.goto 5, 3) := by decide +kernel
theorem dX11_pieceCount_18 : decode cX11_pieceCount 18 = .ok (.ldc 145, 2) := by decide +kernel
theorem dX11_pieceCount_20 : decode cX11_pieceCount 20 = .ok (.ireturn, 1) := by decide +kernel
abbrev rmX11_pieceCount : Room := { frames := 2, cells := 0, slots := 0, locals := 80 }
abbrev sX11_pieceCount (E : EV) : List AV → AH → (Option AV → AH → Prop) → Prop := Spec E yX11_pieceCount cX11_pieceCount 2 (some .int) rmX11_pieceCount
theorem mX11_pieceCount : Mt yX11_pieceCount cX11_pieceCount 2 (some .int) 1 := ⟨k1130, k12, by decide +kernel⟩
theorem vX11_pieceCount : MtV yX11_pieceCount 11 := ⟨k1128, k1129, by decide, (RX11, TX11, 26), rfl, rfl⟩
def PX11_pieceCount_0 (E : EV) (post : Option AV → AH → Prop) (h : AH) (l0 : Option Nat) (l1 : Int32) : Prop :=
  CS (sX11_isSlot E) [aI l1] h (kI fun x1 h2 => (x1 = 0 → post (some (aI (-1000001 : Int32))) h2) ∧ (¬ x1 = 0 → CS (sX11_slotAt E) [aI l1] h2 (kI fun x3 h4 => CV (sX11_pieces E) l0 11 [aI x3] h4 (kI fun x5 h6 => post (some (aI x5)) h6))))
theorem bX11_pieceCount_0 {E : EV} {X : AX} {post : Option AV → AH → Prop} (C : Cb E X cX11_pieceCount RX11 2 rmX11_pieceCount) (D : Cr E X (some .int) rmX11_pieceCount "pieceCount" post) {h : AH} {l0 : Option Nat} {l1 : Int32} (w : PX11_pieceCount_0 E post h l0 l1) : Go E X 2 0 0 0 [(0, aP l0), (1, aI l1)] [] h := by
  unfold PX11_pieceCount_0 at w
  refine r_iload_n C dX11_pieceCount_0 rfl 1 rfl ?_
  refine r_csI (rm' := rmX11_isSlot) C mX11_isSlot vX11_isSlot k1049 [aI l1] [] rfl rfl (Nat.le_of_ble_eq_true rfl) (by decide) ⟨Nat.zero_le _, Nat.zero_le _⟩ 0 0 rfl rfl dX11_pieceCount_1 w (fun x1 h2 w => ?_)
  refine r_if_eq C dX11_pieceCount_4 (tgt := 18) rfl (fun hc => ?_) (fun hc => ?_)
  · have w := w.1 hc
    refine r_ldc (v := -1000001) C dX11_pieceCount_18 k1039 ?_
    exact r_iret C D rfl (Nat.zero_le _) (Nat.zero_le _) dX11_pieceCount_20 w
  · have w := w.2 hc
    refine r_aload_n C dX11_pieceCount_7 rfl 0 rfl ?_
    refine r_iload_n C dX11_pieceCount_8 rfl 1 rfl ?_
    refine r_csI (rm' := rmX11_slotAt) C mX11_slotAt vX11_slotAt k1100 [aI l1] [aP l0] rfl rfl (Nat.le_of_ble_eq_true rfl) (by decide) ⟨Nat.zero_le _, Nat.zero_le _⟩ 0 0 rfl rfl dX11_pieceCount_9 w (fun x3 h4 w => ?_)
    refine r_cvI (rm' := rmX11_pieces) C mX11_pieces vX11_pieces k1115 [aI x3] [] rfl rfl (Nat.le_of_ble_eq_true rfl) (by decide) ⟨Nat.zero_le _, Nat.zero_le _⟩ 0 0 rfl rfl dX11_pieceCount_12 w (fun x5 h6 w => ?_)
    refine r_goto C dX11_pieceCount_15 (tgt := 20) rfl ?_
    exact r_iret C D rfl (Nat.zero_le _) (Nat.zero_le _) dX11_pieceCount_20 w
theorem eX11_pieceCount {E : EV} {post : Option AV → AH → Prop} {h : AH} {l0 : Option Nat} {l1 : Int32} (w : PX11_pieceCount_0 E post h l0 l1) : sX11_pieceCount E [aP l0, aI l1] h post := Spec.of RX11 rfl rfl (Nat.le_of_ble_eq_true rfl) fun X C D => bX11_pieceCount_0 C D w
theorem dX11_place_0 : decode cX11_place 0 = .ok (.iload_n 1, 1) := by decide +kernel
theorem dX11_place_1 : decode cX11_place 1 = .ok (.invokestatic 182, 3) := by decide +kernel
theorem dX11_place_4 : decode cX11_place 4 = .ok (.ifCond .eq 11, 3) := by decide +kernel
theorem dX11_place_7 : decode cX11_place 7 = .ok (.iload_n 2, 1) := by decide +kernel
theorem dX11_place_8 : decode cX11_place 8 = .ok (.iload_n 3, 1) := by decide +kernel
theorem dX11_place_9 : decode cX11_place 9 = .ok (.invokestatic 236, 3) := by decide +kernel
theorem dX11_place_12 : decode cX11_place 12 = .ok (.ifCond .ne 6, 3) := by decide +kernel
theorem dX11_place_15 : decode cX11_place 15 = .ok (.ldc 145, 2) := by decide +kernel
theorem dX11_place_17 : decode cX11_place 17 = .ok (.ireturn, 1) := by decide +kernel
theorem dX11_place_18 : decode cX11_place 18 = .ok (.aload_n 0, 1) := by decide +kernel
theorem dX11_place_19 : decode cX11_place 19 = .ok (.iload_n 1, 1) := by decide +kernel
theorem dX11_place_20 : decode cX11_place 20 = .ok (.invokevirtual 195, 3) := by decide +kernel
theorem dX11_place_23 : decode cX11_place 23 = .ok (.ifCond .ne 18, 3) := by decide +kernel
theorem dX11_place_26 : decode cX11_place 26 = .ok (.aload_n 0, 1) := by decide +kernel
theorem dX11_place_27 : decode cX11_place 27 = .ok (.iload_n 1, 1) := by decide +kernel
theorem dX11_place_28 : decode cX11_place 28 = .ok (.invokestatic 50, 3) := by decide +kernel
theorem dX11_place_31 : decode cX11_place 31 = .ok (.iload_n 2, 1) := by decide +kernel
theorem dX11_place_32 : decode cX11_place 32 = .ok (.iload_n 3, 1) := by decide +kernel
theorem dX11_place_33 : decode cX11_place 33 = .ok (.ldc 226, 2) := by decide +kernel
theorem dX11_place_35 : decode cX11_place 35 = .ok (.invokevirtual 266, 3) := by decide +kernel
theorem dX11_place_38 : decode cX11_place 38 = .ok (.ifCond .ne 6, 3) := by decide +kernel
theorem dX11_place_41 : decode cX11_place 41 = .ok (.ldc 42, 2) := by decide +kernel
theorem dX11_place_43 : decode cX11_place 43 = .ok (.ireturn, 1) := by decide +kernel
theorem dX11_place_44 : decode cX11_place 44 = .ok (.aload_n 0, 1) := by decide +kernel
theorem dX11_place_45 : decode cX11_place 45 = .ok (.getfield 7, 3) := by decide +kernel
theorem dX11_place_48 : decode cX11_place 48 = .ok (.iconst 3, 1) := by decide +kernel
theorem dX11_place_49 : decode cX11_place 49 = .ok (.iaload, 1) := by decide +kernel
theorem dX11_place_50 : decode cX11_place 50 = .ok (.bipush 8, 2) := by decide +kernel
theorem dX11_place_52 : decode cX11_place 52 = .ok (.if_icmp .ne 6, 3) := by decide +kernel
theorem dX11_place_55 : decode cX11_place 55 = .ok (.ldc 149, 2) := by decide +kernel
theorem dX11_place_57 : decode cX11_place 57 = .ok (.ireturn, 1) := by decide +kernel
theorem dX11_place_58 : decode cX11_place 58 = .ok (.aload_n 0, 1) := by decide +kernel
theorem dX11_place_59 : decode cX11_place 59 = .ok (.invokevirtual 188, 3) := by decide +kernel
theorem dX11_place_62 : decode cX11_place 62 = .ok (.aload_n 0, 1) := by decide +kernel
theorem dX11_place_63 : decode cX11_place 63 = .ok (.iload_n 1, 1) := by decide +kernel
theorem dX11_place_64 : decode cX11_place 64 = .ok (.invokestatic 50, 3) := by decide +kernel
theorem dX11_place_67 : decode cX11_place 67 = .ok (.iload_n 2, 1) := by decide +kernel
theorem dX11_place_68 : decode cX11_place 68 = .ok (.iload_n 3, 1) := by decide +kernel
theorem dX11_place_69 : decode cX11_place 69 = .ok (.invokevirtual 270, 3) := by decide +kernel
theorem dX11_place_72 : decode cX11_place 72 = .ok (.ireturn, 1) := by decide +kernel
abbrev rmX11_place : Room := { frames := 6, cells := 0, slots := 0, locals := 240 }
abbrev sX11_place (E : EV) : List AV → AH → (Option AV → AH → Prop) → Prop := Spec E yX11_place cX11_place 4 (some .int) rmX11_place
theorem mX11_place : Mt yX11_place cX11_place 4 (some .int) 3 := ⟨k1299, k12, by decide +kernel⟩
theorem vX11_place : MtV yX11_place 11 := ⟨k1297, k1298, by decide, (RX11, TX11, 26), rfl, rfl⟩
def PX11_place_0 (E : EV) (post : Option AV → AH → Prop) (h : AH) (l0 : Option Nat) (l1 : Int32) (l2 : Int32) (l3 : Int32) : Prop :=
  CS (sX11_isSlot E) [aI l1] h (kI fun x1 h2 => (x1 = 0 → post (some (aI (-1000001 : Int32))) h2) ∧ (¬ x1 = 0 → CS (sX11_isPlace E) [aI l2, aI l3] h2 (kI fun x3 h4 => (¬ x3 = 0 → CV (sX11_isEmpty E) l0 11 [aI l1] h4 (kI fun x5 h6 => (¬ x5 = 0 → post (some (aI (-1000002 : Int32))) h6) ∧ (x5 = 0 → CS (sX11_slotAt E) [aI l1] h6 (kI fun x7 h8 => CV (sX11_fits E) l0 11 [aI x7, aI l2, aI l3, aI (-1000009 : Int32)] h8 (kI fun x9 h10 => (¬ x9 = 0 → rdP h10 l0 11 0 fun x11 => aldI h10 x11 0 (3 : Int32) fun x12 => (¬ x12 = (8 : Int32) → CV (sX11_note E) l0 11 [] h10 (kV fun h14 => CS (sX11_slotAt E) [aI l1] h14 (kI fun x15 h16 => CV (sX11_puts E) l0 11 [aI x15, aI l2, aI l3] h16 (kI fun x17 h18 => post (some (aI x17)) h18)))) ∧ (x12 = (8 : Int32) → post (some (aI (-1000003 : Int32))) h10)) ∧ (x9 = 0 → post (some (aI (-1000002 : Int32))) h10)))))) ∧ (x3 = 0 → post (some (aI (-1000001 : Int32))) h4))))
theorem bX11_place_0 {E : EV} {X : AX} {post : Option AV → AH → Prop} (C : Cb E X cX11_place RX11 4 rmX11_place) (D : Cr E X (some .int) rmX11_place "place" post) {h : AH} {l0 : Option Nat} {l1 : Int32} {l2 : Int32} {l3 : Int32} (w : PX11_place_0 E post h l0 l1 l2 l3) : Go E X 4 0 0 0 [(0, aP l0), (1, aI l1), (2, aI l2), (3, aI l3)] [] h := by
  unfold PX11_place_0 at w
  refine r_iload_n C dX11_place_0 rfl 1 rfl ?_
  refine r_csI (rm' := rmX11_isSlot) C mX11_isSlot vX11_isSlot k1049 [aI l1] [] rfl rfl (Nat.le_of_ble_eq_true rfl) (by decide) ⟨Nat.zero_le _, Nat.zero_le _⟩ 0 0 rfl rfl dX11_place_1 w (fun x1 h2 w => ?_)
  refine r_if_eq C dX11_place_4 (tgt := 15) rfl (fun hc => ?_) (fun hc => ?_)
  · have w := w.1 hc
    refine r_ldc (v := -1000001) C dX11_place_15 k1039 ?_
    exact r_iret C D rfl (Nat.zero_le _) (Nat.zero_le _) dX11_place_17 w
  · have w := w.2 hc
    refine r_iload_n C dX11_place_7 rfl 2 rfl ?_
    refine r_iload_n C dX11_place_8 rfl 3 rfl ?_
    refine r_csI (rm' := rmX11_isPlace) C mX11_isPlace vX11_isPlace k1214 [aI l2, aI l3] [] rfl rfl (Nat.le_of_ble_eq_true rfl) (by decide) ⟨Nat.zero_le _, Nat.zero_le _⟩ 0 0 rfl rfl dX11_place_9 w (fun x3 h4 w => ?_)
    refine r_if_ne C dX11_place_12 (tgt := 18) rfl (fun hc => ?_) (fun hc => ?_)
    · have w := w.1 hc
      refine r_aload_n C dX11_place_18 rfl 0 rfl ?_
      refine r_iload_n C dX11_place_19 rfl 1 rfl ?_
      refine r_cvI (rm' := rmX11_isEmpty) C mX11_isEmpty vX11_isEmpty k1111 [aI l1] [] rfl rfl (Nat.le_of_ble_eq_true rfl) (by decide) ⟨Nat.zero_le _, Nat.zero_le _⟩ 0 0 rfl rfl dX11_place_20 w (fun x5 h6 w => ?_)
      refine r_if_ne C dX11_place_23 (tgt := 41) rfl (fun hc => ?_) (fun hc => ?_)
      · have w := w.1 hc
        refine r_ldc (v := -1000002) C dX11_place_41 k1027 ?_
        exact r_iret C D rfl (Nat.zero_le _) (Nat.zero_le _) dX11_place_43 w
      · have w := w.2 hc
        refine r_aload_n C dX11_place_26 rfl 0 rfl ?_
        refine r_iload_n C dX11_place_27 rfl 1 rfl ?_
        refine r_csI (rm' := rmX11_slotAt) C mX11_slotAt vX11_slotAt k1100 [aI l1] [aP l0] rfl rfl (Nat.le_of_ble_eq_true rfl) (by decide) ⟨Nat.zero_le _, Nat.zero_le _⟩ 0 0 rfl rfl dX11_place_28 w (fun x7 h8 w => ?_)
        refine r_iload_n C dX11_place_31 rfl 2 rfl ?_
        refine r_iload_n C dX11_place_32 rfl 3 rfl ?_
        refine r_ldc (v := -1000009) C dX11_place_33 k1170 ?_
        refine r_cvI (rm' := rmX11_fits) C mX11_fits vX11_fits k1300 [aI x7, aI l2, aI l3, aI (-1000009 : Int32)] [] rfl rfl (Nat.le_of_ble_eq_true rfl) (by decide) ⟨Nat.zero_le _, Nat.zero_le _⟩ 0 0 rfl rfl dX11_place_35 w (fun x9 h10 w => ?_)
        refine r_if_ne C dX11_place_38 (tgt := 44) rfl (fun hc => ?_) (fun hc => ?_)
        · have w := w.1 hc
          refine r_aload_n C dX11_place_44 rfl 0 rfl ?_
          refine r_getP C fcX11 (f := 0) (by decide) rfl k943 dX11_place_45 (w.mono fun x11 w => ?_)
          refine r_iconst (v := 3) C dX11_place_48 rfl ?_
          refine r_iald C dX11_place_49 (w.mono fun x12 w => ?_)
          refine r_bipush (v := 8) C dX11_place_50 rfl ?_
          refine r_icmp_ne C dX11_place_52 (tgt := 58) rfl (fun hc => ?_) (fun hc => ?_)
          · have w := w.1 hc
            refine r_aload_n C dX11_place_58 rfl 0 rfl ?_
            refine r_cvV (rm' := rmX11_note) C mX11_note vX11_note k1096 [] [] rfl rfl (Nat.le_of_ble_eq_true rfl) (by decide) ⟨Nat.zero_le _, Nat.zero_le _⟩ 0 0 rfl rfl dX11_place_59 w (fun h14 w => ?_)
            refine r_aload_n C dX11_place_62 rfl 0 rfl ?_
            refine r_iload_n C dX11_place_63 rfl 1 rfl ?_
            refine r_csI (rm' := rmX11_slotAt) C mX11_slotAt vX11_slotAt k1100 [aI l1] [aP l0] rfl rfl (Nat.le_of_ble_eq_true rfl) (by decide) ⟨Nat.zero_le _, Nat.zero_le _⟩ 0 0 rfl rfl dX11_place_64 w (fun x15 h16 w => ?_)
            refine r_iload_n C dX11_place_67 rfl 2 rfl ?_
            refine r_iload_n C dX11_place_68 rfl 3 rfl ?_
            refine r_cvI (rm' := rmX11_puts) C mX11_puts vX11_puts k1308 [aI x15, aI l2, aI l3] [] rfl rfl (Nat.le_of_ble_eq_true rfl) (by decide) ⟨Nat.zero_le _, Nat.zero_le _⟩ 0 0 rfl rfl dX11_place_69 w (fun x17 h18 w => ?_)
            exact r_iret C D rfl (Nat.zero_le _) (Nat.zero_le _) dX11_place_72 w
          · have w := w.2 hc
            refine r_ldc (v := -1000003) C dX11_place_55 k1040 ?_
            exact r_iret C D rfl (Nat.zero_le _) (Nat.zero_le _) dX11_place_57 w
        · have w := w.2 hc
          refine r_ldc (v := -1000002) C dX11_place_41 k1027 ?_
          exact r_iret C D rfl (Nat.zero_le _) (Nat.zero_le _) dX11_place_43 w
    · have w := w.2 hc
      refine r_ldc (v := -1000001) C dX11_place_15 k1039 ?_
      exact r_iret C D rfl (Nat.zero_le _) (Nat.zero_le _) dX11_place_17 w
theorem eX11_place {E : EV} {post : Option AV → AH → Prop} {h : AH} {l0 : Option Nat} {l1 : Int32} {l2 : Int32} {l3 : Int32} (w : PX11_place_0 E post h l0 l1 l2 l3) : sX11_place E [aP l0, aI l1, aI l2, aI l3] h post := Spec.of RX11 rfl rfl (Nat.le_of_ble_eq_true rfl) fun X C D => bX11_place_0 C D w
theorem dX11_refuses_0 : decode cX11_refuses 0 = .ok (.iload_n 1, 1) := by decide +kernel
theorem dX11_refuses_1 : decode cX11_refuses 1 = .ok (.invokestatic 182, 3) := by decide +kernel
theorem dX11_refuses_4 : decode cX11_refuses 4 = .ok (.ifCond .ne 6, 3) := by decide +kernel
theorem dX11_refuses_7 : decode cX11_refuses 7 = .ok (.ldc 145, 2) := by decide +kernel
theorem dX11_refuses_9 : decode cX11_refuses 9 = .ok (.ireturn, 1) := by decide +kernel
theorem dX11_refuses_10 : decode cX11_refuses 10 = .ok (.aload_n 0, 1) := by decide +kernel
theorem dX11_refuses_11 : decode cX11_refuses 11 = .ok (.iload_n 1, 1) := by decide +kernel
theorem dX11_refuses_12 : decode cX11_refuses 12 = .ok (.invokevirtual 195, 3) := by decide +kernel
theorem dX11_refuses_15 : decode cX11_refuses 15 = .ok (.ifCond .eq 8, 3) := by decide +kernel
theorem dX11_refuses_18 : decode cX11_refuses 18 = .ok (.ldc 42, 2) := by decide +kernel
theorem dX11_refuses_20 : decode cX11_refuses 20 = .ok (.goto 20, 3) := by decide +kernel
theorem dX11_refuses_23 : decode cX11_refuses 23 = .ok (.aload_n 0, 1) := by decide +kernel
theorem dX11_refuses_24 : decode cX11_refuses 24 = .ok (.getfield 7, 3) := by decide +kernel
theorem dX11_refuses_27 : decode cX11_refuses 27 = .ok (.iconst 3, 1) := by decide +kernel
theorem dX11_refuses_28 : decode cX11_refuses 28 = .ok (.iaload, 1) := by decide +kernel
theorem dX11_refuses_29 : decode cX11_refuses 29 = .ok (.bipush 8, 2) := by decide +kernel
theorem dX11_refuses_31 : decode cX11_refuses 31 = .ok (.if_icmp .ne 8, 3) := by decide +kernel
theorem dX11_refuses_34 : decode cX11_refuses 34 = .ok (.ldc 149, 2) := by decide +kernel
theorem dX11_refuses_36 : decode cX11_refuses 36 = .ok (.goto 4, 3) := by decide +kernel
theorem dX11_refuses_39 : decode cX11_refuses 39 = .ok (.iconst 0, 1) := by decide +kernel
theorem dX11_refuses_40 : decode cX11_refuses 40 = .ok (.ireturn, 1) := by decide +kernel
abbrev rmX11_refuses : Room := { frames := 2, cells := 0, slots := 0, locals := 80 }
abbrev sX11_refuses (E : EV) : List AV → AH → (Option AV → AH → Prop) → Prop := Spec E yX11_refuses cX11_refuses 2 (some .int) rmX11_refuses
theorem mX11_refuses : Mt yX11_refuses cX11_refuses 2 (some .int) 1 := ⟨k1319, k12, by decide +kernel⟩
theorem vX11_refuses : MtV yX11_refuses 11 := ⟨k1318, kp71, by decide, (RX11, TX11, 26), rfl, rfl⟩
def PX11_refuses_0 (E : EV) (post : Option AV → AH → Prop) (h : AH) (l0 : Option Nat) (l1 : Int32) : Prop :=
  CS (sX11_isSlot E) [aI l1] h (kI fun x1 h2 => (¬ x1 = 0 → CV (sX11_isEmpty E) l0 11 [aI l1] h2 (kI fun x3 h4 => (x3 = 0 → rdP h4 l0 11 0 fun x5 => aldI h4 x5 0 (3 : Int32) fun x6 => (¬ x6 = (8 : Int32) → post (some (aI (0 : Int32))) h4) ∧ (x6 = (8 : Int32) → post (some (aI (-1000003 : Int32))) h4)) ∧ (¬ x3 = 0 → post (some (aI (-1000002 : Int32))) h4))) ∧ (x1 = 0 → post (some (aI (-1000001 : Int32))) h2))
theorem bX11_refuses_0 {E : EV} {X : AX} {post : Option AV → AH → Prop} (C : Cb E X cX11_refuses RX11 2 rmX11_refuses) (D : Cr E X (some .int) rmX11_refuses "refuses" post) {h : AH} {l0 : Option Nat} {l1 : Int32} (w : PX11_refuses_0 E post h l0 l1) : Go E X 2 0 0 0 [(0, aP l0), (1, aI l1)] [] h := by
  unfold PX11_refuses_0 at w
  refine r_iload_n C dX11_refuses_0 rfl 1 rfl ?_
  refine r_csI (rm' := rmX11_isSlot) C mX11_isSlot vX11_isSlot k1049 [aI l1] [] rfl rfl (Nat.le_of_ble_eq_true rfl) (by decide) ⟨Nat.zero_le _, Nat.zero_le _⟩ 0 0 rfl rfl dX11_refuses_1 w (fun x1 h2 w => ?_)
  refine r_if_ne C dX11_refuses_4 (tgt := 10) rfl (fun hc => ?_) (fun hc => ?_)
  · have w := w.1 hc
    refine r_aload_n C dX11_refuses_10 rfl 0 rfl ?_
    refine r_iload_n C dX11_refuses_11 rfl 1 rfl ?_
    refine r_cvI (rm' := rmX11_isEmpty) C mX11_isEmpty vX11_isEmpty k1111 [aI l1] [] rfl rfl (Nat.le_of_ble_eq_true rfl) (by decide) ⟨Nat.zero_le _, Nat.zero_le _⟩ 0 0 rfl rfl dX11_refuses_12 w (fun x3 h4 w => ?_)
    refine r_if_eq C dX11_refuses_15 (tgt := 23) rfl (fun hc => ?_) (fun hc => ?_)
    · have w := w.1 hc
      refine r_aload_n C dX11_refuses_23 rfl 0 rfl ?_
      refine r_getP C fcX11 (f := 0) (by decide) rfl k943 dX11_refuses_24 (w.mono fun x5 w => ?_)
      refine r_iconst (v := 3) C dX11_refuses_27 rfl ?_
      refine r_iald C dX11_refuses_28 (w.mono fun x6 w => ?_)
      refine r_bipush (v := 8) C dX11_refuses_29 rfl ?_
      refine r_icmp_ne C dX11_refuses_31 (tgt := 39) rfl (fun hc => ?_) (fun hc => ?_)
      · have w := w.1 hc
        refine r_iconst (v := 0) C dX11_refuses_39 rfl ?_
        exact r_iret C D rfl (Nat.zero_le _) (Nat.zero_le _) dX11_refuses_40 w
      · have w := w.2 hc
        refine r_ldc (v := -1000003) C dX11_refuses_34 k1040 ?_
        refine r_goto C dX11_refuses_36 (tgt := 40) rfl ?_
        exact r_iret C D rfl (Nat.zero_le _) (Nat.zero_le _) dX11_refuses_40 w
    · have w := w.2 hc
      refine r_ldc (v := -1000002) C dX11_refuses_18 k1027 ?_
      refine r_goto C dX11_refuses_20 (tgt := 40) rfl ?_
      exact r_iret C D rfl (Nat.zero_le _) (Nat.zero_le _) dX11_refuses_40 w
  · have w := w.2 hc
    refine r_ldc (v := -1000001) C dX11_refuses_7 k1039 ?_
    exact r_iret C D rfl (Nat.zero_le _) (Nat.zero_le _) dX11_refuses_9 w
theorem eX11_refuses {E : EV} {post : Option AV → AH → Prop} {h : AH} {l0 : Option Nat} {l1 : Int32} (w : PX11_refuses_0 E post h l0 l1) : sX11_refuses E [aP l0, aI l1] h post := Spec.of RX11 rfl rfl (Nat.le_of_ble_eq_true rfl) fun X C D => bX11_refuses_0 C D w
theorem dX11_placeBottomLeft_0 : decode cX11_placeBottomLeft 0 = .ok (.aload_n 0, 1) := by decide +kernel
theorem dX11_placeBottomLeft_1 : decode cX11_placeBottomLeft 1 = .ok (.iload_n 1, 1) := by decide +kernel
theorem dX11_placeBottomLeft_2 : decode cX11_placeBottomLeft 2 = .ok (.invokevirtual 279, 3) := by decide +kernel
theorem dX11_placeBottomLeft_5 : decode cX11_placeBottomLeft 5 = .ok (.istore_n 2, 1) := by decide +kernel
theorem dX11_placeBottomLeft_6 : decode cX11_placeBottomLeft 6 = .ok (.iload_n 2, 1) := by decide +kernel
theorem dX11_placeBottomLeft_7 : decode cX11_placeBottomLeft 7 = .ok (.ifCond .ge 5, 3) := by decide +kernel
theorem dX11_placeBottomLeft_10 : decode cX11_placeBottomLeft 10 = .ok (.iload_n 2, 1) := by decide +kernel
theorem dX11_placeBottomLeft_11 : decode cX11_placeBottomLeft 11 = .ok (.ireturn, 1) := by decide +kernel
theorem dX11_placeBottomLeft_12 : decode cX11_placeBottomLeft 12 = .ok (.aload_n 0, 1) := by decide +kernel
theorem dX11_placeBottomLeft_13 : decode cX11_placeBottomLeft 13 = .ok (.iload_n 1, 1) := by decide +kernel
theorem dX11_placeBottomLeft_14 : decode cX11_placeBottomLeft 14 = .ok (.invokestatic 50, 3) := by decide +kernel
theorem dX11_placeBottomLeft_17 : decode cX11_placeBottomLeft 17 = .ok (.invokevirtual 282, 3) := by decide +kernel
theorem dX11_placeBottomLeft_20 : decode cX11_placeBottomLeft 20 = .ok (.ifCond .ne 6, 3) := by decide +kernel
theorem dX11_placeBottomLeft_23 : decode cX11_placeBottomLeft 23 = .ok (.ldc 226, 2) := by decide +kernel
theorem dX11_placeBottomLeft_25 : decode cX11_placeBottomLeft 25 = .ok (.ireturn, 1) := by decide +kernel
theorem dX11_placeBottomLeft_26 : decode cX11_placeBottomLeft 26 = .ok (.aload_n 0, 1) := by decide +kernel
theorem dX11_placeBottomLeft_27 : decode cX11_placeBottomLeft 27 = .ok (.invokevirtual 188, 3) := by decide +kernel
theorem dX11_placeBottomLeft_30 : decode cX11_placeBottomLeft 30 = .ok (.aload_n 0, 1) := by decide +kernel
theorem dX11_placeBottomLeft_31 : decode cX11_placeBottomLeft 31 = .ok (.iload_n 1, 1) := by decide +kernel
theorem dX11_placeBottomLeft_32 : decode cX11_placeBottomLeft 32 = .ok (.invokestatic 50, 3) := by decide +kernel
theorem dX11_placeBottomLeft_35 : decode cX11_placeBottomLeft 35 = .ok (.aload_n 0, 1) := by decide +kernel
theorem dX11_placeBottomLeft_36 : decode cX11_placeBottomLeft 36 = .ok (.getfield 273, 3) := by decide +kernel
theorem dX11_placeBottomLeft_39 : decode cX11_placeBottomLeft 39 = .ok (.aload_n 0, 1) := by decide +kernel
theorem dX11_placeBottomLeft_40 : decode cX11_placeBottomLeft 40 = .ok (.getfield 276, 3) := by decide +kernel
theorem dX11_placeBottomLeft_43 : decode cX11_placeBottomLeft 43 = .ok (.invokevirtual 270, 3) := by decide +kernel
theorem dX11_placeBottomLeft_46 : decode cX11_placeBottomLeft 46 = .ok (.ireturn, 1) := by decide +kernel
abbrev rmX11_placeBottomLeft : Room := { frames := 7, cells := 0, slots := 0, locals := 280 }
abbrev sX11_placeBottomLeft (E : EV) : List AV → AH → (Option AV → AH → Prop) → Prop := Spec E yX11_placeBottomLeft cX11_placeBottomLeft 3 (some .int) rmX11_placeBottomLeft
theorem mX11_placeBottomLeft : Mt yX11_placeBottomLeft cX11_placeBottomLeft 3 (some .int) 1 := ⟨k1315, k12, by decide +kernel⟩
theorem vX11_placeBottomLeft : MtV yX11_placeBottomLeft 11 := ⟨k1313, k1314, by decide, (RX11, TX11, 26), rfl, rfl⟩
def PX11_placeBottomLeft_0 (E : EV) (post : Option AV → AH → Prop) (h : AH) (l0 : Option Nat) (l1 : Int32) : Prop :=
  CV (sX11_refuses E) l0 11 [aI l1] h (kI fun x1 h2 => (0 ≤ x1 → CS (sX11_slotAt E) [aI l1] h2 (kI fun x4 h5 => CV (sX11_finds E) l0 11 [aI x4] h5 (kI fun x6 h7 => (¬ x6 = 0 → CV (sX11_note E) l0 11 [] h7 (kV fun h9 => CS (sX11_slotAt E) [aI l1] h9 (kI fun x10 h11 => rdI h11 l0 11 21 fun x12 => rdI h11 l0 11 22 fun x13 => CV (sX11_puts E) l0 11 [aI x10, aI x12, aI x13] h11 (kI fun x14 h15 => post (some (aI x14)) h15)))) ∧ (x6 = 0 → post (some (aI (-1000009 : Int32))) h7)))) ∧ (¬ 0 ≤ x1 → post (some (aI x1)) h2))
theorem bX11_placeBottomLeft_0 {E : EV} {X : AX} {post : Option AV → AH → Prop} (C : Cb E X cX11_placeBottomLeft RX11 3 rmX11_placeBottomLeft) (D : Cr E X (some .int) rmX11_placeBottomLeft "placeBottomLeft" post) {h : AH} {l0 : Option Nat} {l1 : Int32} (w : PX11_placeBottomLeft_0 E post h l0 l1) : Go E X 3 0 0 0 [(0, aP l0), (1, aI l1)] [] h := by
  unfold PX11_placeBottomLeft_0 at w
  refine r_aload_n C dX11_placeBottomLeft_0 rfl 0 rfl ?_
  refine r_iload_n C dX11_placeBottomLeft_1 rfl 1 rfl ?_
  refine r_cvI (rm' := rmX11_refuses) C mX11_refuses vX11_refuses k1316 [aI l1] [] rfl rfl (Nat.le_of_ble_eq_true rfl) (by decide) ⟨Nat.zero_le _, Nat.zero_le _⟩ 0 0 rfl rfl dX11_placeBottomLeft_2 w (fun x1 h2 w => ?_)
  refine r_istore_n C dX11_placeBottomLeft_5 rfl (by decide) rfl ?_
  refine r_iload_n C dX11_placeBottomLeft_6 rfl 0 rfl ?_
  refine r_if_ge C dX11_placeBottomLeft_7 (tgt := 12) rfl (fun hc => ?_) (fun hc => ?_)
  · have w := w.1 hc
    refine r_aload_n C dX11_placeBottomLeft_12 rfl 1 rfl ?_
    refine r_iload_n C dX11_placeBottomLeft_13 rfl 2 rfl ?_
    refine r_csI (rm' := rmX11_slotAt) C mX11_slotAt vX11_slotAt k1100 [aI l1] [aP l0] rfl rfl (Nat.le_of_ble_eq_true rfl) (by decide) ⟨Nat.zero_le _, Nat.zero_le _⟩ 0 0 rfl rfl dX11_placeBottomLeft_14 w (fun x4 h5 w => ?_)
    refine r_cvI (rm' := rmX11_finds) C mX11_finds vX11_finds k1320 [aI x4] [] rfl rfl (Nat.le_of_ble_eq_true rfl) (by decide) ⟨Nat.zero_le _, Nat.zero_le _⟩ 0 0 rfl rfl dX11_placeBottomLeft_17 w (fun x6 h7 w => ?_)
    refine r_if_ne C dX11_placeBottomLeft_20 (tgt := 26) rfl (fun hc => ?_) (fun hc => ?_)
    · have w := w.1 hc
      refine r_aload_n C dX11_placeBottomLeft_26 rfl 1 rfl ?_
      refine r_cvV (rm' := rmX11_note) C mX11_note vX11_note k1096 [] [] rfl rfl (Nat.le_of_ble_eq_true rfl) (by decide) ⟨Nat.zero_le _, Nat.zero_le _⟩ 0 0 rfl rfl dX11_placeBottomLeft_27 w (fun h9 w => ?_)
      refine r_aload_n C dX11_placeBottomLeft_30 rfl 1 rfl ?_
      refine r_iload_n C dX11_placeBottomLeft_31 rfl 2 rfl ?_
      refine r_csI (rm' := rmX11_slotAt) C mX11_slotAt vX11_slotAt k1100 [aI l1] [aP l0] rfl rfl (Nat.le_of_ble_eq_true rfl) (by decide) ⟨Nat.zero_le _, Nat.zero_le _⟩ 0 0 rfl rfl dX11_placeBottomLeft_32 w (fun x10 h11 w => ?_)
      refine r_aload_n C dX11_placeBottomLeft_35 rfl 1 rfl ?_
      refine r_getI C fcX11 (f := 21) (by decide) rfl k964 dX11_placeBottomLeft_36 (w.mono fun x12 w => ?_)
      refine r_aload_n C dX11_placeBottomLeft_39 rfl 1 rfl ?_
      refine r_getI C fcX11 (f := 22) (by decide) rfl k965 dX11_placeBottomLeft_40 (w.mono fun x13 w => ?_)
      refine r_cvI (rm' := rmX11_puts) C mX11_puts vX11_puts k1308 [aI x10, aI x12, aI x13] [] rfl rfl (Nat.le_of_ble_eq_true rfl) (by decide) ⟨Nat.zero_le _, Nat.zero_le _⟩ 0 0 rfl rfl dX11_placeBottomLeft_43 w (fun x14 h15 w => ?_)
      exact r_iret C D rfl (Nat.zero_le _) (Nat.zero_le _) dX11_placeBottomLeft_46 w
    · have w := w.2 hc
      refine r_ldc (v := -1000009) C dX11_placeBottomLeft_23 k1170 ?_
      exact r_iret C D rfl (Nat.zero_le _) (Nat.zero_le _) dX11_placeBottomLeft_25 w
  · have w := w.2 hc
    refine r_iload_n C dX11_placeBottomLeft_10 rfl 0 rfl ?_
    exact r_iret C D rfl (Nat.zero_le _) (Nat.zero_le _) dX11_placeBottomLeft_11 w
theorem eX11_placeBottomLeft {E : EV} {post : Option AV → AH → Prop} {h : AH} {l0 : Option Nat} {l1 : Int32} (w : PX11_placeBottomLeft_0 E post h l0 l1) : sX11_placeBottomLeft E [aP l0, aI l1] h post := Spec.of RX11 rfl rfl (Nat.le_of_ble_eq_true rfl) fun X C D => bX11_placeBottomLeft_0 C D w
theorem dX11_placeTurned_0 : decode cX11_placeTurned 0 = .ok (.aload_n 0, 1) := by decide +kernel
theorem dX11_placeTurned_1 : decode cX11_placeTurned 1 = .ok (.iload_n 1, 1) := by decide +kernel
theorem dX11_placeTurned_2 : decode cX11_placeTurned 2 = .ok (.invokevirtual 279, 3) := by decide +kernel
theorem dX11_placeTurned_5 : decode cX11_placeTurned 5 = .ok (.istore_n 2, 1) := by decide +kernel
theorem dX11_placeTurned_6 : decode cX11_placeTurned 6 = .ok (.iload_n 2, 1) := by decide +kernel
theorem dX11_placeTurned_7 : decode cX11_placeTurned 7 = .ok (.ifCond .ge 5, 3) := by decide +kernel
theorem dX11_placeTurned_10 : decode cX11_placeTurned 10 = .ok (.iload_n 2, 1) := by decide +kernel
theorem dX11_placeTurned_11 : decode cX11_placeTurned 11 = .ok (.ireturn, 1) := by decide +kernel
theorem dX11_placeTurned_12 : decode cX11_placeTurned 12 = .ok (.aload_n 0, 1) := by decide +kernel
theorem dX11_placeTurned_13 : decode cX11_placeTurned 13 = .ok (.iload_n 1, 1) := by decide +kernel
theorem dX11_placeTurned_14 : decode cX11_placeTurned 14 = .ok (.invokestatic 50, 3) := by decide +kernel
theorem dX11_placeTurned_17 : decode cX11_placeTurned 17 = .ok (.sipush 540, 3) := by decide +kernel
theorem dX11_placeTurned_20 : decode cX11_placeTurned 20 = .ok (.invokevirtual 191, 3) := by decide +kernel
theorem dX11_placeTurned_23 : decode cX11_placeTurned 23 = .ok (.ldc 226, 2) := by decide +kernel
theorem dX11_placeTurned_25 : decode cX11_placeTurned 25 = .ok (.istore_n 3, 1) := by decide +kernel
theorem dX11_placeTurned_26 : decode cX11_placeTurned 26 = .ok (.iconst 0, 1) := by decide +kernel
theorem dX11_placeTurned_27 : decode cX11_placeTurned 27 = .ok (.istore 4, 2) := by decide +kernel
theorem dX11_placeTurned_29 : decode cX11_placeTurned 29 = .ok (.iconst 0, 1) := by decide +kernel
theorem dX11_placeTurned_30 : decode cX11_placeTurned 30 = .ok (.istore 5, 2) := by decide +kernel
theorem dX11_placeTurned_32 : decode cX11_placeTurned 32 = .ok (.ldc_w 285, 3) := by decide +kernel
theorem dX11_placeTurned_35 : decode cX11_placeTurned 35 = .ok (.istore 6, 2) := by decide +kernel
theorem dX11_placeTurned_37 : decode cX11_placeTurned 37 = .ok (.ldc_w 285, 3) := by decide +kernel
theorem dX11_placeTurned_40 : decode cX11_placeTurned 40 = .ok (.istore 7, 2) := by decide +kernel
theorem dX11_placeTurned_42 : decode cX11_placeTurned 42 = .ok (.iconst 0, 1) := by decide +kernel
theorem dX11_placeTurned_43 : decode cX11_placeTurned 43 = .ok (.istore 8, 2) := by decide +kernel
theorem dX11_placeTurned_45 : decode cX11_placeTurned 45 = .ok (.iload 8, 2) := by decide +kernel
theorem dX11_placeTurned_47 : decode cX11_placeTurned 47 = .ok (.iconst 4, 1) := by decide +kernel
theorem dX11_placeTurned_48 : decode cX11_placeTurned 48 = .ok (.if_icmp .ge 102, 3) := by decide +kernel
theorem dX11_placeTurned_51 : decode cX11_placeTurned 51 = .ok (.aload_n 0, 1) := by decide +kernel
theorem dX11_placeTurned_52 : decode cX11_placeTurned 52 = .ok (.sipush 540, 3) := by decide +kernel
theorem dX11_placeTurned_55 : decode cX11_placeTurned 55 = .ok (.invokevirtual 282, 3) := by decide +kernel
theorem dX11_placeTurned_58 : decode cX11_placeTurned 58 = .ok (.ifCond .eq 79, 3) := by decide +kernel
theorem dX11_placeTurned_61 : decode cX11_placeTurned 61 = .ok (.aload_n 0, 1) := by decide +kernel
theorem dX11_placeTurned_62 : decode cX11_placeTurned 62 = .ok (.getfield 276, 3) := by decide +kernel
theorem dX11_placeTurned_65 : decode cX11_placeTurned 65 = .ok (.aload_n 0, 1) := by decide +kernel
theorem dX11_placeTurned_66 : decode cX11_placeTurned 66 = .ok (.sipush 540, 3) := by decide +kernel
theorem dX11_placeTurned_69 : decode cX11_placeTurned 69 = .ok (.iconst 0, 1) := by decide +kernel
theorem dX11_placeTurned_70 : decode cX11_placeTurned 70 = .ok (.iconst 1, 1) := by decide +kernel
theorem dX11_placeTurned_71 : decode cX11_placeTurned 71 = .ok (.invokevirtual 227, 3) := by decide +kernel
theorem dX11_placeTurned_74 : decode cX11_placeTurned 74 = .ok (.iadd, 1) := by decide +kernel
theorem dX11_placeTurned_75 : decode cX11_placeTurned 75 = .ok (.istore 9, 2) := by decide +kernel
theorem dX11_placeTurned_77 : decode cX11_placeTurned 77 = .ok (.aload_n 0, 1) := by decide +kernel
theorem dX11_placeTurned_78 : decode cX11_placeTurned 78 = .ok (.getfield 273, 3) := by decide +kernel
theorem dX11_placeTurned_81 : decode cX11_placeTurned 81 = .ok (.aload_n 0, 1) := by decide +kernel
theorem dX11_placeTurned_82 : decode cX11_placeTurned 82 = .ok (.sipush 540, 3) := by decide +kernel
theorem dX11_placeTurned_85 : decode cX11_placeTurned 85 = .ok (.iconst 1, 1) := by decide +kernel
theorem dX11_placeTurned_86 : decode cX11_placeTurned 86 = .ok (.iconst 0, 1) := by decide +kernel
theorem dX11_placeTurned_87 : decode cX11_placeTurned 87 = .ok (.invokevirtual 227, 3) := by decide +kernel
theorem dX11_placeTurned_90 : decode cX11_placeTurned 90 = .ok (.iadd, 1) := by decide +kernel
theorem dX11_placeTurned_91 : decode cX11_placeTurned 91 = .ok (.istore 10, 2) := by decide +kernel
theorem dX11_placeTurned_93 : decode cX11_placeTurned 93 = .ok (.iload 9, 2) := by decide +kernel
theorem dX11_placeTurned_95 : decode cX11_placeTurned 95 = .ok (.iload 6, 2) := by decide +kernel
theorem dX11_placeTurned_97 : decode cX11_placeTurned 97 = .ok (.if_icmp .lt 17, 3) := by decide +kernel
theorem dX11_placeTurned_100 : decode cX11_placeTurned 100 = .ok (.iload 9, 2) := by decide +kernel
theorem dX11_placeTurned_102 : decode cX11_placeTurned 102 = .ok (.iload 6, 2) := by decide +kernel
theorem dX11_placeTurned_104 : decode cX11_placeTurned 104 = .ok (.if_icmp .ne 33, 3) := by decide +kernel
theorem dX11_placeTurned_107 : decode cX11_placeTurned 107 = .ok (.iload 10, 2) := by decide +kernel
theorem dX11_placeTurned_109 : decode cX11_placeTurned 109 = .ok (.iload 7, 2) := by decide +kernel
theorem dX11_placeTurned_111 : decode cX11_placeTurned 111 = .ok (.if_icmp .ge 26, 3) := by decide +kernel
theorem dX11_placeTurned_114 : decode cX11_placeTurned 114 = .ok (.iload 8, 2) := by decide +kernel
theorem dX11_placeTurned_116 : decode cX11_placeTurned 116 = .ok (.istore_n 3, 1) := by decide +kernel
theorem dX11_placeTurned_117 : decode cX11_placeTurned 117 = .ok (.aload_n 0, 1) := by decide +kernel
theorem dX11_placeTurned_118 : decode cX11_placeTurned 118 = .ok (.getfield 273, 3) := by decide +kernel
theorem dX11_placeTurned_121 : decode cX11_placeTurned 121 = .ok (.istore 4, 2) := by decide +kernel
theorem dX11_placeTurned_123 : decode cX11_placeTurned 123 = .ok (.aload_n 0, 1) := by decide +kernel
theorem dX11_placeTurned_124 : decode cX11_placeTurned 124 = .ok (.getfield 276, 3) := by decide +kernel
theorem dX11_placeTurned_127 : decode cX11_placeTurned 127 = .ok (.istore 5, 2) := by decide +kernel
theorem dX11_placeTurned_129 : decode cX11_placeTurned 129 = .ok (.iload 9, 2) := by decide +kernel
theorem dX11_placeTurned_131 : decode cX11_placeTurned 131 = .ok (.istore 6, 2) := by decide +kernel
theorem dX11_placeTurned_133 : decode cX11_placeTurned 133 = .ok (.iload 10, 2) := by decide +kernel
theorem dX11_placeTurned_135 : decode cX11_placeTurned 135 = .ok (.istore 7, 2) := by decide +kernel
theorem dX11_placeTurned_137 : decode cX11_placeTurned 137 = .ok (.aload_n 0, 1) := by decide +kernel
theorem dX11_placeTurned_138 : decode cX11_placeTurned 138 = .ok (.sipush 540, 3) := by decide +kernel
theorem dX11_placeTurned_141 : decode cX11_placeTurned 141 = .ok (.invokevirtual 198, 3) := by decide +kernel
theorem dX11_placeTurned_144 : decode cX11_placeTurned 144 = .ok (.iinc 8 1, 3) := by decide +kernel
theorem dX11_placeTurned_147 : decode cX11_placeTurned 147 = .ok (.goto (-102), 3) := by decide +kernel
theorem dX11_placeTurned_150 : decode cX11_placeTurned 150 = .ok (.iload_n 3, 1) := by decide +kernel
theorem dX11_placeTurned_151 : decode cX11_placeTurned 151 = .ok (.ldc 226, 2) := by decide +kernel
theorem dX11_placeTurned_153 : decode cX11_placeTurned 153 = .ok (.if_icmp .ne 6, 3) := by decide +kernel
theorem dX11_placeTurned_156 : decode cX11_placeTurned 156 = .ok (.ldc 226, 2) := by decide +kernel
theorem dX11_placeTurned_158 : decode cX11_placeTurned 158 = .ok (.ireturn, 1) := by decide +kernel
theorem dX11_placeTurned_159 : decode cX11_placeTurned 159 = .ok (.aload_n 0, 1) := by decide +kernel
theorem dX11_placeTurned_160 : decode cX11_placeTurned 160 = .ok (.invokevirtual 188, 3) := by decide +kernel
theorem dX11_placeTurned_163 : decode cX11_placeTurned 163 = .ok (.iconst 0, 1) := by decide +kernel
theorem dX11_placeTurned_164 : decode cX11_placeTurned 164 = .ok (.istore 8, 2) := by decide +kernel
theorem dX11_placeTurned_166 : decode cX11_placeTurned 166 = .ok (.iload 8, 2) := by decide +kernel
theorem dX11_placeTurned_168 : decode cX11_placeTurned 168 = .ok (.iload_n 3, 1) := by decide +kernel
theorem dX11_placeTurned_169 : decode cX11_placeTurned 169 = .ok (.if_icmp .ge 16, 3) := by decide +kernel
theorem dX11_placeTurned_172 : decode cX11_placeTurned 172 = .ok (.aload_n 0, 1) := by decide +kernel
theorem dX11_placeTurned_173 : decode cX11_placeTurned 173 = .ok (.sipush 540, 3) := by decide +kernel
theorem dX11_placeTurned_176 : decode cX11_placeTurned 176 = .ok (.invokevirtual 198, 3) := by decide +kernel
theorem dX11_placeTurned_179 : decode cX11_placeTurned 179 = .ok (.iinc 8 1, 3) := by decide +kernel
theorem dX11_placeTurned_182 : decode cX11_placeTurned 182 = .ok (.goto (-16), 3) := by decide +kernel
theorem dX11_placeTurned_185 : decode cX11_placeTurned 185 = .ok (.aload_n 0, 1) := by decide +kernel
theorem dX11_placeTurned_186 : decode cX11_placeTurned 186 = .ok (.sipush 540, 3) := by decide +kernel
theorem dX11_placeTurned_189 : decode cX11_placeTurned 189 = .ok (.iload 4, 2) := by decide +kernel
theorem dX11_placeTurned_191 : decode cX11_placeTurned 191 = .ok (.iload 5, 2) := by decide +kernel
theorem dX11_placeTurned_193 : decode cX11_placeTurned 193 = .ok (.invokevirtual 270, 3) := by decide +kernel
theorem dX11_placeTurned_196 : decode cX11_placeTurned 196 = .ok (.ireturn, 1) := by decide +kernel
abbrev rmX11_placeTurned : Room := { frames := 7, cells := 0, slots := 0, locals := 280 }
abbrev sX11_placeTurned (E : EV) : List AV → AH → (Option AV → AH → Prop) → Prop := Spec E yX11_placeTurned cX11_placeTurned 11 (some .int) rmX11_placeTurned
theorem mX11_placeTurned : Mt yX11_placeTurned cX11_placeTurned 11 (some .int) 1 := ⟨k1327, k12, by decide +kernel⟩
theorem vX11_placeTurned : MtV yX11_placeTurned 11 := ⟨k1325, k1326, by decide, (RX11, TX11, 26), rfl, rfl⟩
def PX11_placeTurned_166 (E : EV) (post : Option AV → AH → Prop) (J166 : AH → Option Nat → Int32 → Int32 → Int32 → Int32 → Prop) (h : AH) (l0 : Option Nat) (l3 : Int32) (l4 : Int32) (l5 : Int32) (l8 : Int32) : Prop :=
  (l3 ≤ l8 → CV (sX11_puts E) l0 11 [aI (540 : Int32), aI l4, aI l5] h (kI fun x1 h2 => post (some (aI x1)) h2)) ∧ (¬ l3 ≤ l8 → CV (sX11_turn E) l0 11 [aI (540 : Int32)] h (kV fun h2 => J166 h2 l0 l3 l4 l5 (l8 + (1 : Int32))))
theorem bX11_placeTurned_166 {E : EV} {X : AX} {post : Option AV → AH → Prop} (C : Cb E X cX11_placeTurned RX11 11 rmX11_placeTurned) (D : Cr E X (some .int) rmX11_placeTurned "placeTurned" post) {J166 : AH → Option Nat → Int32 → Int32 → Int32 → Int32 → Prop} (g166 : ∀ (h : AH) (l0 : Option Nat) (l3 : Int32) (l4 : Int32) (l5 : Int32) (l8 : Int32), J166 h l0 l3 l4 l5 l8 → Go E X 11 0 0 166 [(0, aP l0), (3, aI l3), (4, aI l4), (5, aI l5), (8, aI l8)] [] h) {h : AH} {l0 : Option Nat} {l3 : Int32} {l4 : Int32} {l5 : Int32} {l8 : Int32} (w : PX11_placeTurned_166 E post J166 h l0 l3 l4 l5 l8) : Go E X 11 0 0 166 [(0, aP l0), (3, aI l3), (4, aI l4), (5, aI l5), (8, aI l8)] [] h := by
  unfold PX11_placeTurned_166 at w
  refine r_iload C dX11_placeTurned_166 4 rfl ?_
  refine r_iload_n C dX11_placeTurned_168 rfl 1 rfl ?_
  refine r_icmp_ge C dX11_placeTurned_169 (tgt := 185) rfl (fun hc => ?_) (fun hc => ?_)
  · have w := w.1 hc
    refine r_aload_n C dX11_placeTurned_185 rfl 0 rfl ?_
    refine r_sipush (v := 540) C dX11_placeTurned_186 rfl ?_
    refine r_iload C dX11_placeTurned_189 2 rfl ?_
    refine r_iload C dX11_placeTurned_191 3 rfl ?_
    refine r_cvI (rm' := rmX11_puts) C mX11_puts vX11_puts k1308 [aI (540 : Int32), aI l4, aI l5] [] rfl rfl (Nat.le_of_ble_eq_true rfl) (by decide) ⟨Nat.zero_le _, Nat.zero_le _⟩ 0 0 rfl rfl dX11_placeTurned_193 w (fun x1 h2 w => ?_)
    exact r_iret C D rfl (Nat.zero_le _) (Nat.zero_le _) dX11_placeTurned_196 w
  · have w := w.2 hc
    refine r_aload_n C dX11_placeTurned_172 rfl 0 rfl ?_
    refine r_sipush (v := 540) C dX11_placeTurned_173 rfl ?_
    refine r_cvV (rm' := rmX11_turn) C mX11_turn vX11_turn k1123 [aI (540 : Int32)] [] rfl rfl (Nat.le_of_ble_eq_true rfl) (by decide) ⟨Nat.zero_le _, Nat.zero_le _⟩ 0 0 rfl rfl dX11_placeTurned_176 w (fun h2 w => ?_)
    refine r_iinc C dX11_placeTurned_179 4 rfl (v := 1) rfl (by decide) rfl ?_
    refine r_goto C dX11_placeTurned_182 (tgt := 166) rfl ?_
    exact r_sub [1, 2, 3, 4, 0] rfl (g166 h2 l0 l3 l4 l5 (l8 + (1 : Int32)) w)
theorem lpX11_placeTurned_166 {E : EV} {X : AX} {post : Option AV → AH → Prop} (C : Cb E X cX11_placeTurned RX11 11 rmX11_placeTurned) (D : Cr E X (some .int) rmX11_placeTurned "placeTurned" post) (I : Nat → AH → Option Nat → Int32 → Int32 → Int32 → Int32 → Prop) (step : ∀ (z : Nat) (h : AH) (l0 : Option Nat) (l3 : Int32) (l4 : Int32) (l5 : Int32) (l8 : Int32), I z h l0 l3 l4 l5 l8 → PX11_placeTurned_166 E post (fun h l0 l3 l4 l5 l8 => ∃ z', z' < z ∧ I z' h l0 l3 l4 l5 l8) h l0 l3 l4 l5 l8) : ∀ (z : Nat) (h : AH) (l0 : Option Nat) (l3 : Int32) (l4 : Int32) (l5 : Int32) (l8 : Int32), I z h l0 l3 l4 l5 l8 → Go E X 11 0 0 166 [(0, aP l0), (3, aI l3), (4, aI l4), (5, aI l5), (8, aI l8)] [] h := by
  intro z
  induction z using Nat.strongRecOn with
  | _ z ih =>
    intro h l0 l3 l4 l5 l8 hI
    exact bX11_placeTurned_166 C D (fun h l0 l3 l4 l5 l8 hJ => by obtain ⟨z', hz, hi⟩ := hJ; exact ih z' hz h l0 l3 l4 l5 l8 hi) (step z h l0 l3 l4 l5 l8 hI)
def PX11_placeTurned_137 (E : EV) (post : Option AV → AH → Prop) (J45 : AH → Option Nat → Int32 → Int32 → Int32 → Int32 → Int32 → Int32 → Prop) (h : AH) (l0 : Option Nat) (l3 : Int32) (l4 : Int32) (l5 : Int32) (l6 : Int32) (l7 : Int32) (l8 : Int32) : Prop :=
  CV (sX11_turn E) l0 11 [aI (540 : Int32)] h (kV fun h2 => J45 h2 l0 l3 l4 l5 l6 l7 (l8 + (1 : Int32)))
theorem bX11_placeTurned_137 {E : EV} {X : AX} {post : Option AV → AH → Prop} (C : Cb E X cX11_placeTurned RX11 11 rmX11_placeTurned) (D : Cr E X (some .int) rmX11_placeTurned "placeTurned" post) {J45 : AH → Option Nat → Int32 → Int32 → Int32 → Int32 → Int32 → Int32 → Prop} (g45 : ∀ (h : AH) (l0 : Option Nat) (l3 : Int32) (l4 : Int32) (l5 : Int32) (l6 : Int32) (l7 : Int32) (l8 : Int32), J45 h l0 l3 l4 l5 l6 l7 l8 → Go E X 11 0 0 45 [(0, aP l0), (3, aI l3), (4, aI l4), (5, aI l5), (6, aI l6), (7, aI l7), (8, aI l8)] [] h) {h : AH} {l0 : Option Nat} {l3 : Int32} {l4 : Int32} {l5 : Int32} {l6 : Int32} {l7 : Int32} {l8 : Int32} (w : PX11_placeTurned_137 E post J45 h l0 l3 l4 l5 l6 l7 l8) : Go E X 11 0 0 137 [(0, aP l0), (3, aI l3), (4, aI l4), (5, aI l5), (6, aI l6), (7, aI l7), (8, aI l8)] [] h := by
  unfold PX11_placeTurned_137 at w
  refine r_aload_n C dX11_placeTurned_137 rfl 0 rfl ?_
  refine r_sipush (v := 540) C dX11_placeTurned_138 rfl ?_
  refine r_cvV (rm' := rmX11_turn) C mX11_turn vX11_turn k1123 [aI (540 : Int32)] [] rfl rfl (Nat.le_of_ble_eq_true rfl) (by decide) ⟨Nat.zero_le _, Nat.zero_le _⟩ 0 0 rfl rfl dX11_placeTurned_141 w (fun h2 w => ?_)
  refine r_iinc C dX11_placeTurned_144 6 rfl (v := 1) rfl (by decide) rfl ?_
  refine r_goto C dX11_placeTurned_147 (tgt := 45) rfl ?_
  exact r_sub [1, 2, 3, 4, 5, 6, 0] rfl (g45 h2 l0 l3 l4 l5 l6 l7 (l8 + (1 : Int32)) w)
def PX11_placeTurned_114 (E : EV) (post : Option AV → AH → Prop) (J45 : AH → Option Nat → Int32 → Int32 → Int32 → Int32 → Int32 → Int32 → Prop) (h : AH) (l0 : Option Nat) (l8 : Int32) (l9 : Int32) (l10 : Int32) : Prop :=
  rdI h l0 11 21 fun x2 => rdI h l0 11 22 fun x4 => PX11_placeTurned_137 E post J45 h l0 l8 x2 x4 l9 l10 l8
theorem bX11_placeTurned_114 {E : EV} {X : AX} {post : Option AV → AH → Prop} (C : Cb E X cX11_placeTurned RX11 11 rmX11_placeTurned) (D : Cr E X (some .int) rmX11_placeTurned "placeTurned" post) {J45 : AH → Option Nat → Int32 → Int32 → Int32 → Int32 → Int32 → Int32 → Prop} (g45 : ∀ (h : AH) (l0 : Option Nat) (l3 : Int32) (l4 : Int32) (l5 : Int32) (l6 : Int32) (l7 : Int32) (l8 : Int32), J45 h l0 l3 l4 l5 l6 l7 l8 → Go E X 11 0 0 45 [(0, aP l0), (3, aI l3), (4, aI l4), (5, aI l5), (6, aI l6), (7, aI l7), (8, aI l8)] [] h) {h : AH} {l0 : Option Nat} {l8 : Int32} {l9 : Int32} {l10 : Int32} (w : PX11_placeTurned_114 E post J45 h l0 l8 l9 l10) : Go E X 11 0 0 114 [(0, aP l0), (8, aI l8), (9, aI l9), (10, aI l10)] [] h := by
  unfold PX11_placeTurned_114 at w
  refine r_iload C dX11_placeTurned_114 1 rfl ?_
  refine r_istore_n C dX11_placeTurned_116 rfl (by decide) rfl ?_
  refine r_aload_n C dX11_placeTurned_117 rfl 1 rfl ?_
  refine r_getI C fcX11 (f := 21) (by decide) rfl k964 dX11_placeTurned_118 (w.mono fun x2 w => ?_)
  refine r_istore C dX11_placeTurned_121 (by decide) rfl ?_
  refine r_aload_n C dX11_placeTurned_123 rfl 2 rfl ?_
  refine r_getI C fcX11 (f := 22) (by decide) rfl k965 dX11_placeTurned_124 (w.mono fun x4 w => ?_)
  refine r_istore C dX11_placeTurned_127 (by decide) rfl ?_
  refine r_iload C dX11_placeTurned_129 5 rfl ?_
  refine r_istore C dX11_placeTurned_131 (by decide) rfl ?_
  refine r_iload C dX11_placeTurned_133 7 rfl ?_
  refine r_istore C dX11_placeTurned_135 (by decide) rfl ?_
  exact r_sub [5, 4, 3, 2, 1, 0, 6] rfl (bX11_placeTurned_137 C D g45 w)
def PX11_placeTurned_45 (E : EV) (post : Option AV → AH → Prop) (J45 : AH → Option Nat → Int32 → Int32 → Int32 → Int32 → Int32 → Int32 → Prop) (J166 : AH → Option Nat → Int32 → Int32 → Int32 → Int32 → Prop) (h : AH) (l0 : Option Nat) (l3 : Int32) (l4 : Int32) (l5 : Int32) (l6 : Int32) (l7 : Int32) (l8 : Int32) : Prop :=
  ((4 : Int32) ≤ l8 → (¬ l3 = (-1000009 : Int32) → CV (sX11_note E) l0 11 [] h (kV fun h2 => J166 h2 l0 l3 l4 l5 (0 : Int32))) ∧ (l3 = (-1000009 : Int32) → post (some (aI (-1000009 : Int32))) h)) ∧ (¬ (4 : Int32) ≤ l8 → CV (sX11_finds E) l0 11 [aI (540 : Int32)] h (kI fun x1 h2 => (x1 = 0 → PX11_placeTurned_137 E post J45 h2 l0 l3 l4 l5 l6 l7 l8) ∧ (¬ x1 = 0 → rdI h2 l0 11 22 fun x3 => CV (sX11_highest E) l0 11 [aI (540 : Int32), aI (0 : Int32), aI (1 : Int32)] h2 (kI fun x4 h5 => ∀ v6, v6 = (x3 + x4) → rdI h5 l0 11 21 fun x7 => CV (sX11_highest E) l0 11 [aI (540 : Int32), aI (1 : Int32), aI (0 : Int32)] h5 (kI fun x8 h9 => ∀ v10, v10 = (x7 + x8) → (v6 < l6 → PX11_placeTurned_114 E post J45 h9 l0 l8 v6 v10) ∧ (¬ v6 < l6 → (¬ v6 = l6 → PX11_placeTurned_137 E post J45 h9 l0 l3 l4 l5 l6 l7 l8) ∧ (v6 = l6 → (l7 ≤ v10 → PX11_placeTurned_137 E post J45 h9 l0 l3 l4 l5 l6 l7 l8) ∧ (¬ l7 ≤ v10 → PX11_placeTurned_114 E post J45 h9 l0 l8 v6 v10))))))))
theorem bX11_placeTurned_45 {E : EV} {X : AX} {post : Option AV → AH → Prop} (C : Cb E X cX11_placeTurned RX11 11 rmX11_placeTurned) (D : Cr E X (some .int) rmX11_placeTurned "placeTurned" post) {J45 : AH → Option Nat → Int32 → Int32 → Int32 → Int32 → Int32 → Int32 → Prop} (g45 : ∀ (h : AH) (l0 : Option Nat) (l3 : Int32) (l4 : Int32) (l5 : Int32) (l6 : Int32) (l7 : Int32) (l8 : Int32), J45 h l0 l3 l4 l5 l6 l7 l8 → Go E X 11 0 0 45 [(0, aP l0), (3, aI l3), (4, aI l4), (5, aI l5), (6, aI l6), (7, aI l7), (8, aI l8)] [] h) {J166 : AH → Option Nat → Int32 → Int32 → Int32 → Int32 → Prop} (g166 : ∀ (h : AH) (l0 : Option Nat) (l3 : Int32) (l4 : Int32) (l5 : Int32) (l8 : Int32), J166 h l0 l3 l4 l5 l8 → Go E X 11 0 0 166 [(0, aP l0), (3, aI l3), (4, aI l4), (5, aI l5), (8, aI l8)] [] h) {h : AH} {l0 : Option Nat} {l3 : Int32} {l4 : Int32} {l5 : Int32} {l6 : Int32} {l7 : Int32} {l8 : Int32} (w : PX11_placeTurned_45 E post J45 J166 h l0 l3 l4 l5 l6 l7 l8) : Go E X 11 0 0 45 [(0, aP l0), (3, aI l3), (4, aI l4), (5, aI l5), (6, aI l6), (7, aI l7), (8, aI l8)] [] h := by
  unfold PX11_placeTurned_45 at w
  refine r_iload C dX11_placeTurned_45 6 rfl ?_
  refine r_iconst (v := 4) C dX11_placeTurned_47 rfl ?_
  refine r_icmp_ge C dX11_placeTurned_48 (tgt := 150) rfl (fun hc => ?_) (fun hc => ?_)
  · have w := w.1 hc
    refine r_iload_n C dX11_placeTurned_150 rfl 1 rfl ?_
    refine r_ldc (v := -1000009) C dX11_placeTurned_151 k1170 ?_
    refine r_icmp_ne C dX11_placeTurned_153 (tgt := 159) rfl (fun hc => ?_) (fun hc => ?_)
    · have w := w.1 hc
      refine r_aload_n C dX11_placeTurned_159 rfl 0 rfl ?_
      refine r_cvV (rm' := rmX11_note) C mX11_note vX11_note k1096 [] [] rfl rfl (Nat.le_of_ble_eq_true rfl) (by decide) ⟨Nat.zero_le _, Nat.zero_le _⟩ 0 0 rfl rfl dX11_placeTurned_160 w (fun h2 w => ?_)
      refine r_iconst (v := 0) C dX11_placeTurned_163 rfl ?_
      refine r_istore C dX11_placeTurned_164 (by decide) rfl ?_
      exact r_sub [1, 2, 3, 4, 0] rfl (g166 h2 l0 l3 l4 l5 (0 : Int32) w)
    · have w := w.2 hc
      refine r_ldc (v := -1000009) C dX11_placeTurned_156 k1170 ?_
      exact r_iret C D rfl (Nat.zero_le _) (Nat.zero_le _) dX11_placeTurned_158 w
  · have w := w.2 hc
    refine r_aload_n C dX11_placeTurned_51 rfl 0 rfl ?_
    refine r_sipush (v := 540) C dX11_placeTurned_52 rfl ?_
    refine r_cvI (rm' := rmX11_finds) C mX11_finds vX11_finds k1320 [aI (540 : Int32)] [] rfl rfl (Nat.le_of_ble_eq_true rfl) (by decide) ⟨Nat.zero_le _, Nat.zero_le _⟩ 0 0 rfl rfl dX11_placeTurned_55 w (fun x1 h2 w => ?_)
    refine r_if_eq C dX11_placeTurned_58 (tgt := 137) rfl (fun hc => ?_) (fun hc => ?_)
    · have w := w.1 hc
      exact (bX11_placeTurned_137 C D g45 w)
    · have w := w.2 hc
      refine r_aload_n C dX11_placeTurned_61 rfl 0 rfl ?_
      refine r_getI C fcX11 (f := 22) (by decide) rfl k965 dX11_placeTurned_62 (w.mono fun x3 w => ?_)
      refine r_aload_n C dX11_placeTurned_65 rfl 0 rfl ?_
      refine r_sipush (v := 540) C dX11_placeTurned_66 rfl ?_
      refine r_iconst (v := 0) C dX11_placeTurned_69 rfl ?_
      refine r_iconst (v := 1) C dX11_placeTurned_70 rfl ?_
      refine r_cvI (rm' := rmX11_highest) C mX11_highest vX11_highest k1181 [aI (540 : Int32), aI (0 : Int32), aI (1 : Int32)] [aI x3] rfl rfl (Nat.le_of_ble_eq_true rfl) (by decide) ⟨Nat.zero_le _, Nat.zero_le _⟩ 0 0 rfl rfl dX11_placeTurned_71 w (fun x4 h5 w => ?_)
      refine r_iadd C dX11_placeTurned_74 ?_
      refine r_istore C dX11_placeTurned_75 (by decide) rfl ?_
      have w := w _ rfl
      skip
      refine r_aload_n C dX11_placeTurned_77 rfl 1 rfl ?_
      refine r_getI C fcX11 (f := 21) (by decide) rfl k964 dX11_placeTurned_78 (w.mono fun x7 w => ?_)
      refine r_aload_n C dX11_placeTurned_81 rfl 1 rfl ?_
      refine r_sipush (v := 540) C dX11_placeTurned_82 rfl ?_
      refine r_iconst (v := 1) C dX11_placeTurned_85 rfl ?_
      refine r_iconst (v := 0) C dX11_placeTurned_86 rfl ?_
      refine r_cvI (rm' := rmX11_highest) C mX11_highest vX11_highest k1181 [aI (540 : Int32), aI (1 : Int32), aI (0 : Int32)] [aI x7] rfl rfl (Nat.le_of_ble_eq_true rfl) (by decide) ⟨Nat.zero_le _, Nat.zero_le _⟩ 0 0 rfl rfl dX11_placeTurned_87 w (fun x8 h9 w => ?_)
      refine r_iadd C dX11_placeTurned_90 ?_
      refine r_istore C dX11_placeTurned_91 (by decide) rfl ?_
      have w := w _ rfl
      skip
      refine r_iload C dX11_placeTurned_93 1 rfl ?_
      refine r_iload C dX11_placeTurned_95 6 rfl ?_
      refine r_icmp_lt C dX11_placeTurned_97 (tgt := 114) rfl (fun hc => ?_) (fun hc => ?_)
      · have w := w.1 hc
        exact r_sub [2, 8, 1, 0] rfl (bX11_placeTurned_114 C D g45 w)
      · have w := w.2 hc
        refine r_iload C dX11_placeTurned_100 1 rfl ?_
        refine r_iload C dX11_placeTurned_102 6 rfl ?_
        refine r_icmp_ne C dX11_placeTurned_104 (tgt := 137) rfl (fun hc => ?_) (fun hc => ?_)
        · have w := w.1 hc
          exact r_sub [2, 3, 4, 5, 6, 7, 8] rfl (bX11_placeTurned_137 C D g45 w)
        · have w := w.2 hc
          refine r_iload C dX11_placeTurned_107 0 rfl ?_
          refine r_iload C dX11_placeTurned_109 7 rfl ?_
          refine r_icmp_ge C dX11_placeTurned_111 (tgt := 137) rfl (fun hc => ?_) (fun hc => ?_)
          · have w := w.1 hc
            exact r_sub [2, 3, 4, 5, 6, 7, 8] rfl (bX11_placeTurned_137 C D g45 w)
          · have w := w.2 hc
            exact r_sub [2, 8, 1, 0] rfl (bX11_placeTurned_114 C D g45 w)
theorem lpX11_placeTurned_45 {E : EV} {X : AX} {post : Option AV → AH → Prop} (C : Cb E X cX11_placeTurned RX11 11 rmX11_placeTurned) (D : Cr E X (some .int) rmX11_placeTurned "placeTurned" post) {J166 : AH → Option Nat → Int32 → Int32 → Int32 → Int32 → Prop} (g166 : ∀ (h : AH) (l0 : Option Nat) (l3 : Int32) (l4 : Int32) (l5 : Int32) (l8 : Int32), J166 h l0 l3 l4 l5 l8 → Go E X 11 0 0 166 [(0, aP l0), (3, aI l3), (4, aI l4), (5, aI l5), (8, aI l8)] [] h) (I : Nat → AH → Option Nat → Int32 → Int32 → Int32 → Int32 → Int32 → Int32 → Prop) (step : ∀ (z : Nat) (h : AH) (l0 : Option Nat) (l3 : Int32) (l4 : Int32) (l5 : Int32) (l6 : Int32) (l7 : Int32) (l8 : Int32), I z h l0 l3 l4 l5 l6 l7 l8 → PX11_placeTurned_45 E post (fun h l0 l3 l4 l5 l6 l7 l8 => ∃ z', z' < z ∧ I z' h l0 l3 l4 l5 l6 l7 l8) J166 h l0 l3 l4 l5 l6 l7 l8) : ∀ (z : Nat) (h : AH) (l0 : Option Nat) (l3 : Int32) (l4 : Int32) (l5 : Int32) (l6 : Int32) (l7 : Int32) (l8 : Int32), I z h l0 l3 l4 l5 l6 l7 l8 → Go E X 11 0 0 45 [(0, aP l0), (3, aI l3), (4, aI l4), (5, aI l5), (6, aI l6), (7, aI l7), (8, aI l8)] [] h := by
  intro z
  induction z using Nat.strongRecOn with
  | _ z ih =>
    intro h l0 l3 l4 l5 l6 l7 l8 hI
    exact bX11_placeTurned_45 C D (fun h l0 l3 l4 l5 l6 l7 l8 hJ => by obtain ⟨z', hz, hi⟩ := hJ; exact ih z' hz h l0 l3 l4 l5 l6 l7 l8 hi) g166 (step z h l0 l3 l4 l5 l6 l7 l8 hI)
def PX11_placeTurned_0 (E : EV) (post : Option AV → AH → Prop) (J45 : AH → Option Nat → Int32 → Int32 → Int32 → Int32 → Int32 → Int32 → Prop) (h : AH) (l0 : Option Nat) (l1 : Int32) : Prop :=
  CV (sX11_refuses E) l0 11 [aI l1] h (kI fun x1 h2 => (0 ≤ x1 → CS (sX11_slotAt E) [aI l1] h2 (kI fun x4 h5 => CV (sX11_copy E) l0 11 [aI x4, aI (540 : Int32)] h5 (kV fun h7 => J45 h7 l0 (-1000009 : Int32) (0 : Int32) (0 : Int32) (100000 : Int32) (100000 : Int32) (0 : Int32)))) ∧ (¬ 0 ≤ x1 → post (some (aI x1)) h2))
theorem bX11_placeTurned_0 {E : EV} {X : AX} {post : Option AV → AH → Prop} (C : Cb E X cX11_placeTurned RX11 11 rmX11_placeTurned) (D : Cr E X (some .int) rmX11_placeTurned "placeTurned" post) {J45 : AH → Option Nat → Int32 → Int32 → Int32 → Int32 → Int32 → Int32 → Prop} (g45 : ∀ (h : AH) (l0 : Option Nat) (l3 : Int32) (l4 : Int32) (l5 : Int32) (l6 : Int32) (l7 : Int32) (l8 : Int32), J45 h l0 l3 l4 l5 l6 l7 l8 → Go E X 11 0 0 45 [(0, aP l0), (3, aI l3), (4, aI l4), (5, aI l5), (6, aI l6), (7, aI l7), (8, aI l8)] [] h) {h : AH} {l0 : Option Nat} {l1 : Int32} (w : PX11_placeTurned_0 E post J45 h l0 l1) : Go E X 11 0 0 0 [(0, aP l0), (1, aI l1)] [] h := by
  unfold PX11_placeTurned_0 at w
  refine r_aload_n C dX11_placeTurned_0 rfl 0 rfl ?_
  refine r_iload_n C dX11_placeTurned_1 rfl 1 rfl ?_
  refine r_cvI (rm' := rmX11_refuses) C mX11_refuses vX11_refuses k1316 [aI l1] [] rfl rfl (Nat.le_of_ble_eq_true rfl) (by decide) ⟨Nat.zero_le _, Nat.zero_le _⟩ 0 0 rfl rfl dX11_placeTurned_2 w (fun x1 h2 w => ?_)
  refine r_istore_n C dX11_placeTurned_5 rfl (by decide) rfl ?_
  refine r_iload_n C dX11_placeTurned_6 rfl 0 rfl ?_
  refine r_if_ge C dX11_placeTurned_7 (tgt := 12) rfl (fun hc => ?_) (fun hc => ?_)
  · have w := w.1 hc
    refine r_aload_n C dX11_placeTurned_12 rfl 1 rfl ?_
    refine r_iload_n C dX11_placeTurned_13 rfl 2 rfl ?_
    refine r_csI (rm' := rmX11_slotAt) C mX11_slotAt vX11_slotAt k1100 [aI l1] [aP l0] rfl rfl (Nat.le_of_ble_eq_true rfl) (by decide) ⟨Nat.zero_le _, Nat.zero_le _⟩ 0 0 rfl rfl dX11_placeTurned_14 w (fun x4 h5 w => ?_)
    refine r_sipush (v := 540) C dX11_placeTurned_17 rfl ?_
    refine r_cvV (rm' := rmX11_copy) C mX11_copy vX11_copy k1103 [aI x4, aI (540 : Int32)] [] rfl rfl (Nat.le_of_ble_eq_true rfl) (by decide) ⟨Nat.zero_le _, Nat.zero_le _⟩ 0 0 rfl rfl dX11_placeTurned_20 w (fun h7 w => ?_)
    refine r_ldc (v := -1000009) C dX11_placeTurned_23 k1170 ?_
    refine r_istore_n C dX11_placeTurned_25 rfl (by decide) rfl ?_
    refine r_iconst (v := 0) C dX11_placeTurned_26 rfl ?_
    refine r_istore C dX11_placeTurned_27 (by decide) rfl ?_
    refine r_iconst (v := 0) C dX11_placeTurned_29 rfl ?_
    refine r_istore C dX11_placeTurned_30 (by decide) rfl ?_
    refine r_ldc_w (v := 100000) C dX11_placeTurned_32 k1328 ?_
    refine r_istore C dX11_placeTurned_35 (by decide) rfl ?_
    refine r_ldc_w (v := 100000) C dX11_placeTurned_37 k1328 ?_
    refine r_istore C dX11_placeTurned_40 (by decide) rfl ?_
    refine r_iconst (v := 0) C dX11_placeTurned_42 rfl ?_
    refine r_istore C dX11_placeTurned_43 (by decide) rfl ?_
    exact r_sub [7, 5, 4, 3, 2, 1, 0] rfl (g45 h7 l0 (-1000009 : Int32) (0 : Int32) (0 : Int32) (100000 : Int32) (100000 : Int32) (0 : Int32) w)
  · have w := w.2 hc
    refine r_iload_n C dX11_placeTurned_10 rfl 0 rfl ?_
    exact r_iret C D rfl (Nat.zero_le _) (Nat.zero_le _) dX11_placeTurned_11 w
theorem eX11_placeTurned {E : EV} {post : Option AV → AH → Prop} {h : AH} {l0 : Option Nat} {l1 : Int32} {J45 : AH → Option Nat → Int32 → Int32 → Int32 → Int32 → Int32 → Int32 → Prop} (g45 : ∀ X : AX, Cb E X cX11_placeTurned RX11 11 rmX11_placeTurned → Cr E X (some .int) rmX11_placeTurned "placeTurned" post → ∀ (h : AH) (l0 : Option Nat) (l3 : Int32) (l4 : Int32) (l5 : Int32) (l6 : Int32) (l7 : Int32) (l8 : Int32), J45 h l0 l3 l4 l5 l6 l7 l8 → Go E X 11 0 0 45 [(0, aP l0), (3, aI l3), (4, aI l4), (5, aI l5), (6, aI l6), (7, aI l7), (8, aI l8)] [] h) (w : PX11_placeTurned_0 E post J45 h l0 l1) : sX11_placeTurned E [aP l0, aI l1] h post := Spec.of RX11 rfl rfl (Nat.le_of_ble_eq_true rfl) fun X C D => bX11_placeTurned_0 C D (g45 X C D) w
theorem dX11_removalOrder_0 : decode cX11_removalOrder 0 = .ok (.iload_n 1, 1) := by decide +kernel
theorem dX11_removalOrder_1 : decode cX11_removalOrder 1 = .ok (.iconst 0, 1) := by decide +kernel
theorem dX11_removalOrder_2 : decode cX11_removalOrder 2 = .ok (.bipush 7, 2) := by decide +kernel
theorem dX11_removalOrder_4 : decode cX11_removalOrder 4 = .ok (.invokestatic 46, 3) := by decide +kernel
theorem dX11_removalOrder_7 : decode cX11_removalOrder 7 = .ok (.ifCond .eq 7, 3) := by decide +kernel
theorem dX11_removalOrder_10 : decode cX11_removalOrder 10 = .ok (.iload_n 2, 1) := by decide +kernel
theorem dX11_removalOrder_11 : decode cX11_removalOrder 11 = .ok (.ifCond .ge 6, 3) := by decide +kernel
theorem dX11_removalOrder_14 : decode cX11_removalOrder 14 = .ok (.ldc 145, 2) := by decide +kernel
theorem dX11_removalOrder_16 : decode cX11_removalOrder 16 = .ok (.ireturn, 1) := by decide +kernel
theorem dX11_removalOrder_17 : decode cX11_removalOrder 17 = .ok (.iconst 1, 1) := by decide +kernel
theorem dX11_removalOrder_18 : decode cX11_removalOrder 18 = .ok (.aload_n 0, 1) := by decide +kernel
theorem dX11_removalOrder_19 : decode cX11_removalOrder 19 = .ok (.getfield 7, 3) := by decide +kernel
theorem dX11_removalOrder_22 : decode cX11_removalOrder 22 = .ok (.iconst 3, 1) := by decide +kernel
theorem dX11_removalOrder_23 : decode cX11_removalOrder 23 = .ok (.iaload, 1) := by decide +kernel
theorem dX11_removalOrder_24 : decode cX11_removalOrder 24 = .ok (.ishl, 1) := by decide +kernel
theorem dX11_removalOrder_25 : decode cX11_removalOrder 25 = .ok (.iconst 1, 1) := by decide +kernel
theorem dX11_removalOrder_26 : decode cX11_removalOrder 26 = .ok (.isub, 1) := by decide +kernel
theorem dX11_removalOrder_27 : decode cX11_removalOrder 27 = .ok (.istore_n 3, 1) := by decide +kernel
theorem dX11_removalOrder_28 : decode cX11_removalOrder 28 = .ok (.iconst 0, 1) := by decide +kernel
theorem dX11_removalOrder_29 : decode cX11_removalOrder 29 = .ok (.istore 4, 2) := by decide +kernel
theorem dX11_removalOrder_31 : decode cX11_removalOrder 31 = .ok (.iload 4, 2) := by decide +kernel
theorem dX11_removalOrder_33 : decode cX11_removalOrder 33 = .ok (.bipush 8, 2) := by decide +kernel
theorem dX11_removalOrder_35 : decode cX11_removalOrder 35 = .ok (.if_icmp .ge 89, 3) := by decide +kernel
theorem dX11_removalOrder_38 : decode cX11_removalOrder 38 = .ok (.ldc 226, 2) := by decide +kernel
theorem dX11_removalOrder_40 : decode cX11_removalOrder 40 = .ok (.istore 5, 2) := by decide +kernel
theorem dX11_removalOrder_42 : decode cX11_removalOrder 42 = .ok (.aload_n 0, 1) := by decide +kernel
theorem dX11_removalOrder_43 : decode cX11_removalOrder 43 = .ok (.getfield 7, 3) := by decide +kernel
theorem dX11_removalOrder_46 : decode cX11_removalOrder 46 = .ok (.iconst 3, 1) := by decide +kernel
theorem dX11_removalOrder_47 : decode cX11_removalOrder 47 = .ok (.iaload, 1) := by decide +kernel
theorem dX11_removalOrder_48 : decode cX11_removalOrder 48 = .ok (.iconst 1, 1) := by decide +kernel
theorem dX11_removalOrder_49 : decode cX11_removalOrder 49 = .ok (.isub, 1) := by decide +kernel
theorem dX11_removalOrder_50 : decode cX11_removalOrder 50 = .ok (.istore 6, 2) := by decide +kernel
theorem dX11_removalOrder_52 : decode cX11_removalOrder 52 = .ok (.iload 6, 2) := by decide +kernel
theorem dX11_removalOrder_54 : decode cX11_removalOrder 54 = .ok (.ifCond .lt 39, 3) := by decide +kernel
theorem dX11_removalOrder_57 : decode cX11_removalOrder 57 = .ok (.iload_n 3, 1) := by decide +kernel
theorem dX11_removalOrder_58 : decode cX11_removalOrder 58 = .ok (.iload 6, 2) := by decide +kernel
theorem dX11_removalOrder_60 : decode cX11_removalOrder 60 = .ok (.ishr, 1) := by decide +kernel
theorem dX11_removalOrder_61 : decode cX11_removalOrder 61 = .ok (.iconst 1, 1) := by decide +kernel
theorem dX11_removalOrder_62 : decode cX11_removalOrder 62 = .ok (.iand, 1) := by decide +kernel
theorem dX11_removalOrder_63 : decode cX11_removalOrder 63 = .ok (.iconst 1, 1) := by decide +kernel
theorem dX11_removalOrder_64 : decode cX11_removalOrder 64 = .ok (.if_icmp .ne 19, 3) := by decide +kernel
theorem dX11_removalOrder_67 : decode cX11_removalOrder 67 = .ok (.aload_n 0, 1) := by decide +kernel
theorem dX11_removalOrder_68 : decode cX11_removalOrder 68 = .ok (.iload 6, 2) := by decide +kernel
theorem dX11_removalOrder_70 : decode cX11_removalOrder 70 = .ok (.iload_n 1, 1) := by decide +kernel
theorem dX11_removalOrder_71 : decode cX11_removalOrder 71 = .ok (.iload_n 3, 1) := by decide +kernel
theorem dX11_removalOrder_72 : decode cX11_removalOrder 72 = .ok (.invokevirtual 313, 3) := by decide +kernel
theorem dX11_removalOrder_75 : decode cX11_removalOrder 75 = .ok (.ifCond .eq 8, 3) := by decide +kernel
theorem dX11_removalOrder_78 : decode cX11_removalOrder 78 = .ok (.iload 6, 2) := by decide +kernel
theorem dX11_removalOrder_80 : decode cX11_removalOrder 80 = .ok (.goto 5, 3) := by decide +kernel
theorem dX11_removalOrder_83 : decode cX11_removalOrder 83 = .ok (.iload 5, 2) := by decide +kernel
theorem dX11_removalOrder_85 : decode cX11_removalOrder 85 = .ok (.istore 5, 2) := by decide +kernel
theorem dX11_removalOrder_87 : decode cX11_removalOrder 87 = .ok (.iinc 6 (-1), 3) := by decide +kernel
theorem dX11_removalOrder_90 : decode cX11_removalOrder 90 = .ok (.goto (-38), 3) := by decide +kernel
theorem dX11_removalOrder_93 : decode cX11_removalOrder 93 = .ok (.iload 5, 2) := by decide +kernel
theorem dX11_removalOrder_95 : decode cX11_removalOrder 95 = .ok (.ldc 226, 2) := by decide +kernel
theorem dX11_removalOrder_97 : decode cX11_removalOrder 97 = .ok (.if_icmp .eq 9, 3) := by decide +kernel
theorem dX11_removalOrder_100 : decode cX11_removalOrder 100 = .ok (.iload 4, 2) := by decide +kernel
theorem dX11_removalOrder_102 : decode cX11_removalOrder 102 = .ok (.iload_n 2, 1) := by decide +kernel
theorem dX11_removalOrder_103 : decode cX11_removalOrder 103 = .ok (.if_icmp .ne 6, 3) := by decide +kernel
theorem dX11_removalOrder_106 : decode cX11_removalOrder 106 = .ok (.iload 5, 2) := by decide +kernel
theorem dX11_removalOrder_108 : decode cX11_removalOrder 108 = .ok (.ireturn, 1) := by decide +kernel
theorem dX11_removalOrder_109 : decode cX11_removalOrder 109 = .ok (.iload_n 3, 1) := by decide +kernel
theorem dX11_removalOrder_110 : decode cX11_removalOrder 110 = .ok (.iconst 1, 1) := by decide +kernel
theorem dX11_removalOrder_111 : decode cX11_removalOrder 111 = .ok (.iload 5, 2) := by decide +kernel
theorem dX11_removalOrder_113 : decode cX11_removalOrder 113 = .ok (.ishl, 1) := by decide +kernel
theorem dX11_removalOrder_114 : decode cX11_removalOrder 114 = .ok (.iconst (-1), 1) := by decide +kernel
theorem dX11_removalOrder_115 : decode cX11_removalOrder 115 = .ok (.ixor, 1) := by decide +kernel
theorem dX11_removalOrder_116 : decode cX11_removalOrder 116 = .ok (.iand, 1) := by decide +kernel
theorem dX11_removalOrder_117 : decode cX11_removalOrder 117 = .ok (.istore_n 3, 1) := by decide +kernel
theorem dX11_removalOrder_118 : decode cX11_removalOrder 118 = .ok (.iinc 4 1, 3) := by decide +kernel
theorem dX11_removalOrder_121 : decode cX11_removalOrder 121 = .ok (.goto (-90), 3) := by decide +kernel
theorem dX11_removalOrder_124 : decode cX11_removalOrder 124 = .ok (.ldc 226, 2) := by decide +kernel
theorem dX11_removalOrder_126 : decode cX11_removalOrder 126 = .ok (.ireturn, 1) := by decide +kernel
abbrev rmX11_removalOrder : Room := { frames := 6, cells := 0, slots := 0, locals := 240 }
abbrev sX11_removalOrder (E : EV) : List AV → AH → (Option AV → AH → Prop) → Prop := Spec E yX11_removalOrder cX11_removalOrder 7 (some .int) rmX11_removalOrder
theorem mX11_removalOrder : Mt yX11_removalOrder cX11_removalOrder 7 (some .int) 2 := ⟨k1412, k12, by decide +kernel⟩
theorem vX11_removalOrder : MtV yX11_removalOrder 11 := ⟨k1410, k1411, by decide, (RX11, TX11, 26), rfl, rfl⟩
def PX11_removalOrder_83 (E : EV) (post : Option AV → AH → Prop) (J52 : AH → Option Nat → Int32 → Int32 → Int32 → Int32 → Int32 → Int32 → Prop) (h : AH) (l0 : Option Nat) (l1 : Int32) (l2 : Int32) (l3 : Int32) (l4 : Int32) (l5 : Int32) (l6 : Int32) : Prop :=
  J52 h l0 l1 l2 l3 l4 l5 (l6 + (-1 : Int32))
theorem bX11_removalOrder_83 {E : EV} {X : AX} {post : Option AV → AH → Prop} (C : Cb E X cX11_removalOrder RX11 7 rmX11_removalOrder) (D : Cr E X (some .int) rmX11_removalOrder "removalOrder" post) {J52 : AH → Option Nat → Int32 → Int32 → Int32 → Int32 → Int32 → Int32 → Prop} (g52 : ∀ (h : AH) (l0 : Option Nat) (l1 : Int32) (l2 : Int32) (l3 : Int32) (l4 : Int32) (l5 : Int32) (l6 : Int32), J52 h l0 l1 l2 l3 l4 l5 l6 → Go E X 7 0 0 52 [(0, aP l0), (1, aI l1), (2, aI l2), (3, aI l3), (4, aI l4), (5, aI l5), (6, aI l6)] [] h) {h : AH} {l0 : Option Nat} {l1 : Int32} {l2 : Int32} {l3 : Int32} {l4 : Int32} {l5 : Int32} {l6 : Int32} (w : PX11_removalOrder_83 E post J52 h l0 l1 l2 l3 l4 l5 l6) : Go E X 7 0 0 83 [(0, aP l0), (1, aI l1), (2, aI l2), (3, aI l3), (4, aI l4), (5, aI l5), (6, aI l6)] [] h := by
  unfold PX11_removalOrder_83 at w
  refine r_iload C dX11_removalOrder_83 5 rfl ?_
  refine r_istore C dX11_removalOrder_85 (by decide) rfl ?_
  refine r_iinc C dX11_removalOrder_87 6 rfl (v := -1) rfl (by decide) rfl ?_
  refine r_goto C dX11_removalOrder_90 (tgt := 52) rfl ?_
  exact r_sub [2, 3, 4, 5, 6, 1, 0] rfl (g52 h l0 l1 l2 l3 l4 l5 (l6 + (-1 : Int32)) w)
def PX11_removalOrder_52 (E : EV) (post : Option AV → AH → Prop) (J31 : AH → Option Nat → Int32 → Int32 → Int32 → Int32 → Prop) (J52 : AH → Option Nat → Int32 → Int32 → Int32 → Int32 → Int32 → Int32 → Prop) (h : AH) (l0 : Option Nat) (l1 : Int32) (l2 : Int32) (l3 : Int32) (l4 : Int32) (l5 : Int32) (l6 : Int32) : Prop :=
  (l6 < 0 → (l5 = (-1000009 : Int32) → post (some (aI l5)) h) ∧ (¬ l5 = (-1000009 : Int32) → (¬ l4 = l2 → ∀ v1, v1 = (l3 &&& (((1 : Int32) <<< (l5 &&& 31)) ^^^ (-1 : Int32))) → J31 h l0 l1 l2 v1 (l4 + (1 : Int32))) ∧ (l4 = l2 → post (some (aI l5)) h))) ∧ (¬ l6 < 0 → (¬ ((l3 >>> (l6 &&& 31)) &&& (1 : Int32)) = (1 : Int32) → PX11_removalOrder_83 E post J52 h l0 l1 l2 l3 l4 l5 l6) ∧ (((l3 >>> (l6 &&& 31)) &&& (1 : Int32)) = (1 : Int32) → CV (sX11_comesOut E) l0 11 [aI l6, aI l1, aI l3] h (kI fun x1 h2 => (x1 = 0 → PX11_removalOrder_83 E post J52 h2 l0 l1 l2 l3 l4 l5 l6) ∧ (¬ x1 = 0 → J52 h2 l0 l1 l2 l3 l4 l6 (l6 + (-1 : Int32))))))
theorem bX11_removalOrder_52 {E : EV} {X : AX} {post : Option AV → AH → Prop} (C : Cb E X cX11_removalOrder RX11 7 rmX11_removalOrder) (D : Cr E X (some .int) rmX11_removalOrder "removalOrder" post) {J31 : AH → Option Nat → Int32 → Int32 → Int32 → Int32 → Prop} (g31 : ∀ (h : AH) (l0 : Option Nat) (l1 : Int32) (l2 : Int32) (l3 : Int32) (l4 : Int32), J31 h l0 l1 l2 l3 l4 → Go E X 7 0 0 31 [(0, aP l0), (1, aI l1), (2, aI l2), (3, aI l3), (4, aI l4)] [] h) {J52 : AH → Option Nat → Int32 → Int32 → Int32 → Int32 → Int32 → Int32 → Prop} (g52 : ∀ (h : AH) (l0 : Option Nat) (l1 : Int32) (l2 : Int32) (l3 : Int32) (l4 : Int32) (l5 : Int32) (l6 : Int32), J52 h l0 l1 l2 l3 l4 l5 l6 → Go E X 7 0 0 52 [(0, aP l0), (1, aI l1), (2, aI l2), (3, aI l3), (4, aI l4), (5, aI l5), (6, aI l6)] [] h) {h : AH} {l0 : Option Nat} {l1 : Int32} {l2 : Int32} {l3 : Int32} {l4 : Int32} {l5 : Int32} {l6 : Int32} (w : PX11_removalOrder_52 E post J31 J52 h l0 l1 l2 l3 l4 l5 l6) : Go E X 7 0 0 52 [(0, aP l0), (1, aI l1), (2, aI l2), (3, aI l3), (4, aI l4), (5, aI l5), (6, aI l6)] [] h := by
  unfold PX11_removalOrder_52 at w
  refine r_iload C dX11_removalOrder_52 6 rfl ?_
  refine r_if_lt C dX11_removalOrder_54 (tgt := 93) rfl (fun hc => ?_) (fun hc => ?_)
  · have w := w.1 hc
    refine r_iload C dX11_removalOrder_93 5 rfl ?_
    refine r_ldc (v := -1000009) C dX11_removalOrder_95 k1170 ?_
    refine r_icmp_eq C dX11_removalOrder_97 (tgt := 106) rfl (fun hc => ?_) (fun hc => ?_)
    · have w := w.1 hc
      refine r_iload C dX11_removalOrder_106 5 rfl ?_
      exact r_iret C D rfl (Nat.zero_le _) (Nat.zero_le _) dX11_removalOrder_108 w
    · have w := w.2 hc
      refine r_iload C dX11_removalOrder_100 4 rfl ?_
      refine r_iload_n C dX11_removalOrder_102 rfl 2 rfl ?_
      refine r_icmp_ne C dX11_removalOrder_103 (tgt := 109) rfl (fun hc => ?_) (fun hc => ?_)
      · have w := w.1 hc
        refine r_iload_n C dX11_removalOrder_109 rfl 3 rfl ?_
        refine r_iconst (v := 1) C dX11_removalOrder_110 rfl ?_
        refine r_iload C dX11_removalOrder_111 5 rfl ?_
        refine r_ishl C dX11_removalOrder_113 ?_
        refine r_iconst (v := -1) C dX11_removalOrder_114 rfl ?_
        refine r_ixor C dX11_removalOrder_115 ?_
        refine r_iand C dX11_removalOrder_116 ?_
        refine r_istore_n C dX11_removalOrder_117 rfl (by decide) rfl ?_
        have w := w _ rfl
        skip
        refine r_iinc C dX11_removalOrder_118 4 rfl (v := 1) rfl (by decide) rfl ?_
        refine r_goto C dX11_removalOrder_121 (tgt := 31) rfl ?_
        exact r_sub [2, 3, 4, 1, 0] rfl (g31 h l0 l1 l2 (l3 &&& (((1 : Int32) <<< (l5 &&& 31)) ^^^ (-1 : Int32))) (l4 + (1 : Int32)) w)
      · have w := w.2 hc
        refine r_iload C dX11_removalOrder_106 5 rfl ?_
        exact r_iret C D rfl (Nat.zero_le _) (Nat.zero_le _) dX11_removalOrder_108 w
  · have w := w.2 hc
    refine r_iload_n C dX11_removalOrder_57 rfl 3 rfl ?_
    refine r_iload C dX11_removalOrder_58 6 rfl ?_
    refine r_ishr C dX11_removalOrder_60 ?_
    refine r_iconst (v := 1) C dX11_removalOrder_61 rfl ?_
    refine r_iand C dX11_removalOrder_62 ?_
    refine r_iconst (v := 1) C dX11_removalOrder_63 rfl ?_
    refine r_icmp_ne C dX11_removalOrder_64 (tgt := 83) rfl (fun hc => ?_) (fun hc => ?_)
    · have w := w.1 hc
      exact (bX11_removalOrder_83 C D g52 w)
    · have w := w.2 hc
      refine r_aload_n C dX11_removalOrder_67 rfl 0 rfl ?_
      refine r_iload C dX11_removalOrder_68 6 rfl ?_
      refine r_iload_n C dX11_removalOrder_70 rfl 1 rfl ?_
      refine r_iload_n C dX11_removalOrder_71 rfl 3 rfl ?_
      refine r_cvI (rm' := rmX11_comesOut) C mX11_comesOut vX11_comesOut k1405 [aI l6, aI l1, aI l3] [] rfl rfl (Nat.le_of_ble_eq_true rfl) (by decide) ⟨Nat.zero_le _, Nat.zero_le _⟩ 0 0 rfl rfl dX11_removalOrder_72 w (fun x1 h2 w => ?_)
      refine r_if_eq C dX11_removalOrder_75 (tgt := 83) rfl (fun hc => ?_) (fun hc => ?_)
      · have w := w.1 hc
        exact (bX11_removalOrder_83 C D g52 w)
      · have w := w.2 hc
        refine r_iload C dX11_removalOrder_78 6 rfl ?_
        refine r_goto C dX11_removalOrder_80 (tgt := 85) rfl ?_
        refine r_istore C dX11_removalOrder_85 (by decide) rfl ?_
        refine r_iinc C dX11_removalOrder_87 6 rfl (v := -1) rfl (by decide) rfl ?_
        refine r_goto C dX11_removalOrder_90 (tgt := 52) rfl ?_
        exact r_sub [2, 3, 4, 5, 6, 1, 0] rfl (g52 h2 l0 l1 l2 l3 l4 l6 (l6 + (-1 : Int32)) w)
theorem lpX11_removalOrder_52 {E : EV} {X : AX} {post : Option AV → AH → Prop} (C : Cb E X cX11_removalOrder RX11 7 rmX11_removalOrder) (D : Cr E X (some .int) rmX11_removalOrder "removalOrder" post) {J31 : AH → Option Nat → Int32 → Int32 → Int32 → Int32 → Prop} (g31 : ∀ (h : AH) (l0 : Option Nat) (l1 : Int32) (l2 : Int32) (l3 : Int32) (l4 : Int32), J31 h l0 l1 l2 l3 l4 → Go E X 7 0 0 31 [(0, aP l0), (1, aI l1), (2, aI l2), (3, aI l3), (4, aI l4)] [] h) (I : Nat → AH → Option Nat → Int32 → Int32 → Int32 → Int32 → Int32 → Int32 → Prop) (step : ∀ (z : Nat) (h : AH) (l0 : Option Nat) (l1 : Int32) (l2 : Int32) (l3 : Int32) (l4 : Int32) (l5 : Int32) (l6 : Int32), I z h l0 l1 l2 l3 l4 l5 l6 → PX11_removalOrder_52 E post J31 (fun h l0 l1 l2 l3 l4 l5 l6 => ∃ z', z' < z ∧ I z' h l0 l1 l2 l3 l4 l5 l6) h l0 l1 l2 l3 l4 l5 l6) : ∀ (z : Nat) (h : AH) (l0 : Option Nat) (l1 : Int32) (l2 : Int32) (l3 : Int32) (l4 : Int32) (l5 : Int32) (l6 : Int32), I z h l0 l1 l2 l3 l4 l5 l6 → Go E X 7 0 0 52 [(0, aP l0), (1, aI l1), (2, aI l2), (3, aI l3), (4, aI l4), (5, aI l5), (6, aI l6)] [] h := by
  intro z
  induction z using Nat.strongRecOn with
  | _ z ih =>
    intro h l0 l1 l2 l3 l4 l5 l6 hI
    exact bX11_removalOrder_52 C D g31 (fun h l0 l1 l2 l3 l4 l5 l6 hJ => by obtain ⟨z', hz, hi⟩ := hJ; exact ih z' hz h l0 l1 l2 l3 l4 l5 l6 hi) (step z h l0 l1 l2 l3 l4 l5 l6 hI)
def PX11_removalOrder_31 (E : EV) (post : Option AV → AH → Prop) (J52 : AH → Option Nat → Int32 → Int32 → Int32 → Int32 → Int32 → Int32 → Prop) (h : AH) (l0 : Option Nat) (l1 : Int32) (l2 : Int32) (l3 : Int32) (l4 : Int32) : Prop :=
  ((8 : Int32) ≤ l4 → post (some (aI (-1000009 : Int32))) h) ∧ (¬ (8 : Int32) ≤ l4 → rdP h l0 11 0 fun x2 => aldI h x2 0 (3 : Int32) fun x3 => ∀ v4, v4 = (x3 - (1 : Int32)) → J52 h l0 l1 l2 l3 l4 (-1000009 : Int32) v4)
theorem bX11_removalOrder_31 {E : EV} {X : AX} {post : Option AV → AH → Prop} (C : Cb E X cX11_removalOrder RX11 7 rmX11_removalOrder) (D : Cr E X (some .int) rmX11_removalOrder "removalOrder" post) {J52 : AH → Option Nat → Int32 → Int32 → Int32 → Int32 → Int32 → Int32 → Prop} (g52 : ∀ (h : AH) (l0 : Option Nat) (l1 : Int32) (l2 : Int32) (l3 : Int32) (l4 : Int32) (l5 : Int32) (l6 : Int32), J52 h l0 l1 l2 l3 l4 l5 l6 → Go E X 7 0 0 52 [(0, aP l0), (1, aI l1), (2, aI l2), (3, aI l3), (4, aI l4), (5, aI l5), (6, aI l6)] [] h) {h : AH} {l0 : Option Nat} {l1 : Int32} {l2 : Int32} {l3 : Int32} {l4 : Int32} (w : PX11_removalOrder_31 E post J52 h l0 l1 l2 l3 l4) : Go E X 7 0 0 31 [(0, aP l0), (1, aI l1), (2, aI l2), (3, aI l3), (4, aI l4)] [] h := by
  unfold PX11_removalOrder_31 at w
  refine r_iload C dX11_removalOrder_31 4 rfl ?_
  refine r_bipush (v := 8) C dX11_removalOrder_33 rfl ?_
  refine r_icmp_ge C dX11_removalOrder_35 (tgt := 124) rfl (fun hc => ?_) (fun hc => ?_)
  · have w := w.1 hc
    refine r_ldc (v := -1000009) C dX11_removalOrder_124 k1170 ?_
    exact r_iret C D rfl (Nat.zero_le _) (Nat.zero_le _) dX11_removalOrder_126 w
  · have w := w.2 hc
    refine r_ldc (v := -1000009) C dX11_removalOrder_38 k1170 ?_
    refine r_istore C dX11_removalOrder_40 (by decide) rfl ?_
    refine r_aload_n C dX11_removalOrder_42 rfl 1 rfl ?_
    refine r_getP C fcX11 (f := 0) (by decide) rfl k943 dX11_removalOrder_43 (w.mono fun x2 w => ?_)
    refine r_iconst (v := 3) C dX11_removalOrder_46 rfl ?_
    refine r_iald C dX11_removalOrder_47 (w.mono fun x3 w => ?_)
    refine r_iconst (v := 1) C dX11_removalOrder_48 rfl ?_
    refine r_isub C dX11_removalOrder_49 ?_
    refine r_istore C dX11_removalOrder_50 (by decide) rfl ?_
    have w := w _ rfl
    skip
    exact r_sub [2, 3, 4, 5, 6, 1, 0] rfl (g52 h l0 l1 l2 l3 l4 (-1000009 : Int32) (x3 - (1 : Int32)) w)
def PX11_removalOrder_0 (E : EV) (post : Option AV → AH → Prop) (J31 : AH → Option Nat → Int32 → Int32 → Int32 → Int32 → Prop) (h : AH) (l0 : Option Nat) (l1 : Int32) (l2 : Int32) : Prop :=
  CS (sX11_in E) [aI l1, aI (0 : Int32), aI (7 : Int32)] h (kI fun x1 h2 => (x1 = 0 → post (some (aI (-1000001 : Int32))) h2) ∧ (¬ x1 = 0 → (0 ≤ l2 → rdP h2 l0 11 0 fun x3 => aldI h2 x3 0 (3 : Int32) fun x4 => ∀ v5, v5 = (((1 : Int32) <<< (x4 &&& 31)) - (1 : Int32)) → J31 h2 l0 l1 l2 v5 (0 : Int32)) ∧ (¬ 0 ≤ l2 → post (some (aI (-1000001 : Int32))) h2)))
theorem bX11_removalOrder_0 {E : EV} {X : AX} {post : Option AV → AH → Prop} (C : Cb E X cX11_removalOrder RX11 7 rmX11_removalOrder) (D : Cr E X (some .int) rmX11_removalOrder "removalOrder" post) {J31 : AH → Option Nat → Int32 → Int32 → Int32 → Int32 → Prop} (g31 : ∀ (h : AH) (l0 : Option Nat) (l1 : Int32) (l2 : Int32) (l3 : Int32) (l4 : Int32), J31 h l0 l1 l2 l3 l4 → Go E X 7 0 0 31 [(0, aP l0), (1, aI l1), (2, aI l2), (3, aI l3), (4, aI l4)] [] h) {h : AH} {l0 : Option Nat} {l1 : Int32} {l2 : Int32} (w : PX11_removalOrder_0 E post J31 h l0 l1 l2) : Go E X 7 0 0 0 [(0, aP l0), (1, aI l1), (2, aI l2)] [] h := by
  unfold PX11_removalOrder_0 at w
  refine r_iload_n C dX11_removalOrder_0 rfl 1 rfl ?_
  refine r_iconst (v := 0) C dX11_removalOrder_1 rfl ?_
  refine r_bipush (v := 7) C dX11_removalOrder_2 rfl ?_
  refine r_csI (rm' := rmX11_in) C mX11_in vX11_in k1036 [aI l1, aI (0 : Int32), aI (7 : Int32)] [] rfl rfl (Nat.le_of_ble_eq_true rfl) (by decide) ⟨Nat.zero_le _, Nat.zero_le _⟩ 0 0 rfl rfl dX11_removalOrder_4 w (fun x1 h2 w => ?_)
  refine r_if_eq C dX11_removalOrder_7 (tgt := 14) rfl (fun hc => ?_) (fun hc => ?_)
  · have w := w.1 hc
    refine r_ldc (v := -1000001) C dX11_removalOrder_14 k1039 ?_
    exact r_iret C D rfl (Nat.zero_le _) (Nat.zero_le _) dX11_removalOrder_16 w
  · have w := w.2 hc
    refine r_iload_n C dX11_removalOrder_10 rfl 2 rfl ?_
    refine r_if_ge C dX11_removalOrder_11 (tgt := 17) rfl (fun hc => ?_) (fun hc => ?_)
    · have w := w.1 hc
      refine r_iconst (v := 1) C dX11_removalOrder_17 rfl ?_
      refine r_aload_n C dX11_removalOrder_18 rfl 0 rfl ?_
      refine r_getP C fcX11 (f := 0) (by decide) rfl k943 dX11_removalOrder_19 (w.mono fun x3 w => ?_)
      refine r_iconst (v := 3) C dX11_removalOrder_22 rfl ?_
      refine r_iald C dX11_removalOrder_23 (w.mono fun x4 w => ?_)
      refine r_ishl C dX11_removalOrder_24 ?_
      refine r_iconst (v := 1) C dX11_removalOrder_25 rfl ?_
      refine r_isub C dX11_removalOrder_26 ?_
      refine r_istore_n C dX11_removalOrder_27 rfl (by decide) rfl ?_
      have w := w _ rfl
      skip
      refine r_iconst (v := 0) C dX11_removalOrder_28 rfl ?_
      refine r_istore C dX11_removalOrder_29 (by decide) rfl ?_
      exact r_sub [2, 3, 4, 1, 0] rfl (g31 h2 l0 l1 l2 (((1 : Int32) <<< (x4 &&& 31)) - (1 : Int32)) (0 : Int32) w)
    · have w := w.2 hc
      refine r_ldc (v := -1000001) C dX11_removalOrder_14 k1039 ?_
      exact r_iret C D rfl (Nat.zero_le _) (Nat.zero_le _) dX11_removalOrder_16 w
theorem eX11_removalOrder {E : EV} {post : Option AV → AH → Prop} {h : AH} {l0 : Option Nat} {l1 : Int32} {l2 : Int32} {J31 : AH → Option Nat → Int32 → Int32 → Int32 → Int32 → Prop} (g31 : ∀ X : AX, Cb E X cX11_removalOrder RX11 7 rmX11_removalOrder → Cr E X (some .int) rmX11_removalOrder "removalOrder" post → ∀ (h : AH) (l0 : Option Nat) (l1 : Int32) (l2 : Int32) (l3 : Int32) (l4 : Int32), J31 h l0 l1 l2 l3 l4 → Go E X 7 0 0 31 [(0, aP l0), (1, aI l1), (2, aI l2), (3, aI l3), (4, aI l4)] [] h) (w : PX11_removalOrder_0 E post J31 h l0 l1 l2) : sX11_removalOrder E [aP l0, aI l1, aI l2] h post := Spec.of RX11 rfl rfl (Nat.le_of_ble_eq_true rfl) fun X C D => bX11_removalOrder_0 C D (g31 X C D) w
theorem dX11_removeItem_0 : decode cX11_removeItem 0 = .ok (.aload_n 0, 1) := by decide +kernel
theorem dX11_removeItem_1 : decode cX11_removeItem 1 = .ok (.iload_n 1, 1) := by decide +kernel
theorem dX11_removeItem_2 : decode cX11_removeItem 2 = .ok (.invokevirtual 298, 3) := by decide +kernel
theorem dX11_removeItem_5 : decode cX11_removeItem 5 = .ok (.ifCond .ne 6, 3) := by decide +kernel
theorem dX11_removeItem_8 : decode cX11_removeItem 8 = .ok (.ldc 145, 2) := by decide +kernel
theorem dX11_removeItem_10 : decode cX11_removeItem 10 = .ok (.ireturn, 1) := by decide +kernel
theorem dX11_removeItem_11 : decode cX11_removeItem 11 = .ok (.aload_n 0, 1) := by decide +kernel
theorem dX11_removeItem_12 : decode cX11_removeItem 12 = .ok (.invokevirtual 188, 3) := by decide +kernel
theorem dX11_removeItem_15 : decode cX11_removeItem 15 = .ok (.aload_n 0, 1) := by decide +kernel
theorem dX11_removeItem_16 : decode cX11_removeItem 16 = .ok (.getfield 7, 3) := by decide +kernel
theorem dX11_removeItem_19 : decode cX11_removeItem 19 = .ok (.iconst 3, 1) := by decide +kernel
theorem dX11_removeItem_20 : decode cX11_removeItem 20 = .ok (.dup2, 1) := by decide +kernel
theorem dX11_removeItem_21 : decode cX11_removeItem 21 = .ok (.iaload, 1) := by decide +kernel
theorem dX11_removeItem_22 : decode cX11_removeItem 22 = .ok (.iconst 1, 1) := by decide +kernel
theorem dX11_removeItem_23 : decode cX11_removeItem 23 = .ok (.isub, 1) := by decide +kernel
theorem dX11_removeItem_24 : decode cX11_removeItem 24 = .ok (.iastore, 1) := by decide +kernel
theorem dX11_removeItem_25 : decode cX11_removeItem 25 = .ok (.iload_n 1, 1) := by decide +kernel
theorem dX11_removeItem_26 : decode cX11_removeItem 26 = .ok (.invokestatic 257, 3) := by decide +kernel
theorem dX11_removeItem_29 : decode cX11_removeItem 29 = .ok (.istore_n 2, 1) := by decide +kernel
theorem dX11_removeItem_30 : decode cX11_removeItem 30 = .ok (.iload_n 2, 1) := by decide +kernel
theorem dX11_removeItem_31 : decode cX11_removeItem 31 = .ok (.aload_n 0, 1) := by decide +kernel
theorem dX11_removeItem_32 : decode cX11_removeItem 32 = .ok (.getfield 7, 3) := by decide +kernel
theorem dX11_removeItem_35 : decode cX11_removeItem 35 = .ok (.iconst 3, 1) := by decide +kernel
theorem dX11_removeItem_36 : decode cX11_removeItem 36 = .ok (.iaload, 1) := by decide +kernel
theorem dX11_removeItem_37 : decode cX11_removeItem 37 = .ok (.invokestatic 257, 3) := by decide +kernel
theorem dX11_removeItem_40 : decode cX11_removeItem 40 = .ok (.if_icmp .ge 24, 3) := by decide +kernel
theorem dX11_removeItem_43 : decode cX11_removeItem 43 = .ok (.aload_n 0, 1) := by decide +kernel
theorem dX11_removeItem_44 : decode cX11_removeItem 44 = .ok (.getfield 7, 3) := by decide +kernel
theorem dX11_removeItem_47 : decode cX11_removeItem 47 = .ok (.iload_n 2, 1) := by decide +kernel
theorem dX11_removeItem_48 : decode cX11_removeItem 48 = .ok (.aload_n 0, 1) := by decide +kernel
theorem dX11_removeItem_49 : decode cX11_removeItem 49 = .ok (.getfield 7, 3) := by decide +kernel
theorem dX11_removeItem_52 : decode cX11_removeItem 52 = .ok (.iload_n 2, 1) := by decide +kernel
theorem dX11_removeItem_53 : decode cX11_removeItem 53 = .ok (.bipush 42, 2) := by decide +kernel
theorem dX11_removeItem_55 : decode cX11_removeItem 55 = .ok (.iadd, 1) := by decide +kernel
theorem dX11_removeItem_56 : decode cX11_removeItem 56 = .ok (.iaload, 1) := by decide +kernel
theorem dX11_removeItem_57 : decode cX11_removeItem 57 = .ok (.iastore, 1) := by decide +kernel
theorem dX11_removeItem_58 : decode cX11_removeItem 58 = .ok (.iinc 2 1, 3) := by decide +kernel
theorem dX11_removeItem_61 : decode cX11_removeItem 61 = .ok (.goto (-31), 3) := by decide +kernel
theorem dX11_removeItem_64 : decode cX11_removeItem 64 = .ok (.aload_n 0, 1) := by decide +kernel
theorem dX11_removeItem_65 : decode cX11_removeItem 65 = .ok (.getfield 7, 3) := by decide +kernel
theorem dX11_removeItem_68 : decode cX11_removeItem 68 = .ok (.iconst 3, 1) := by decide +kernel
theorem dX11_removeItem_69 : decode cX11_removeItem 69 = .ok (.iaload, 1) := by decide +kernel
theorem dX11_removeItem_70 : decode cX11_removeItem 70 = .ok (.ireturn, 1) := by decide +kernel
abbrev rmX11_removeItem : Room := { frames := 2, cells := 0, slots := 0, locals := 80 }
abbrev sX11_removeItem (E : EV) : List AV → AH → (Option AV → AH → Prop) → Prop := Spec E yX11_removeItem cX11_removeItem 3 (some .int) rmX11_removeItem
theorem mX11_removeItem : Mt yX11_removeItem cX11_removeItem 3 (some .int) 1 := ⟨k1368, k12, by decide +kernel⟩
theorem vX11_removeItem : MtV yX11_removeItem 11 := ⟨k1366, k1367, by decide, (RX11, TX11, 26), rfl, rfl⟩
def PX11_removeItem_30 (E : EV) (post : Option AV → AH → Prop) (J30 : AH → Option Nat → Int32 → Prop) (h : AH) (l0 : Option Nat) (l2 : Int32) : Prop :=
  rdP h l0 11 0 fun x1 => aldI h x1 0 (3 : Int32) fun x2 => CS (sX11_itemShape E) [aI x2] h (kI fun x3 h4 => (x3 ≤ l2 → rdP h4 l0 11 0 fun x5 => aldI h4 x5 0 (3 : Int32) fun x6 => post (some (aI x6)) h4) ∧ (¬ x3 ≤ l2 → rdP h4 l0 11 0 fun x5 => rdP h4 l0 11 0 fun x6 => aldI h4 x6 0 (l2 + (42 : Int32)) fun x7 => astI h4 x5 0 l2 x7 fun h8 => J30 h8 l0 (l2 + (1 : Int32))))
theorem bX11_removeItem_30 {E : EV} {X : AX} {post : Option AV → AH → Prop} (C : Cb E X cX11_removeItem RX11 3 rmX11_removeItem) (D : Cr E X (some .int) rmX11_removeItem "removeItem" post) {J30 : AH → Option Nat → Int32 → Prop} (g30 : ∀ (h : AH) (l0 : Option Nat) (l2 : Int32), J30 h l0 l2 → Go E X 3 0 0 30 [(0, aP l0), (2, aI l2)] [] h) {h : AH} {l0 : Option Nat} {l2 : Int32} (w : PX11_removeItem_30 E post J30 h l0 l2) : Go E X 3 0 0 30 [(0, aP l0), (2, aI l2)] [] h := by
  unfold PX11_removeItem_30 at w
  refine r_iload_n C dX11_removeItem_30 rfl 1 rfl ?_
  refine r_aload_n C dX11_removeItem_31 rfl 0 rfl ?_
  refine r_getP C fcX11 (f := 0) (by decide) rfl k943 dX11_removeItem_32 (w.mono fun x1 w => ?_)
  refine r_iconst (v := 3) C dX11_removeItem_35 rfl ?_
  refine r_iald C dX11_removeItem_36 (w.mono fun x2 w => ?_)
  refine r_csI (rm' := rmX11_itemShape) C mX11_itemShape vX11_itemShape k1281 [aI x2] [aI l2] rfl rfl (Nat.le_of_ble_eq_true rfl) (by decide) ⟨Nat.zero_le _, Nat.zero_le _⟩ 0 0 rfl rfl dX11_removeItem_37 w (fun x3 h4 w => ?_)
  refine r_icmp_ge C dX11_removeItem_40 (tgt := 64) rfl (fun hc => ?_) (fun hc => ?_)
  · have w := w.1 hc
    refine r_aload_n C dX11_removeItem_64 rfl 0 rfl ?_
    refine r_getP C fcX11 (f := 0) (by decide) rfl k943 dX11_removeItem_65 (w.mono fun x5 w => ?_)
    refine r_iconst (v := 3) C dX11_removeItem_68 rfl ?_
    refine r_iald C dX11_removeItem_69 (w.mono fun x6 w => ?_)
    exact r_iret C D rfl (Nat.zero_le _) (Nat.zero_le _) dX11_removeItem_70 w
  · have w := w.2 hc
    refine r_aload_n C dX11_removeItem_43 rfl 0 rfl ?_
    refine r_getP C fcX11 (f := 0) (by decide) rfl k943 dX11_removeItem_44 (w.mono fun x5 w => ?_)
    refine r_iload_n C dX11_removeItem_47 rfl 1 rfl ?_
    refine r_aload_n C dX11_removeItem_48 rfl 0 rfl ?_
    refine r_getP C fcX11 (f := 0) (by decide) rfl k943 dX11_removeItem_49 (w.mono fun x6 w => ?_)
    refine r_iload_n C dX11_removeItem_52 rfl 1 rfl ?_
    refine r_bipush (v := 42) C dX11_removeItem_53 rfl ?_
    refine r_iadd C dX11_removeItem_55 ?_
    refine r_iald C dX11_removeItem_56 (w.mono fun x7 w => ?_)
    refine r_iast C dX11_removeItem_57 (w.mono fun h8 w => ?_)
    refine r_iinc C dX11_removeItem_58 1 rfl (v := 1) rfl (by decide) rfl ?_
    refine r_goto C dX11_removeItem_61 (tgt := 30) rfl ?_
    exact r_sub [1, 0] rfl (g30 h8 l0 (l2 + (1 : Int32)) w)
theorem lpX11_removeItem_30 {E : EV} {X : AX} {post : Option AV → AH → Prop} (C : Cb E X cX11_removeItem RX11 3 rmX11_removeItem) (D : Cr E X (some .int) rmX11_removeItem "removeItem" post) (I : Nat → AH → Option Nat → Int32 → Prop) (step : ∀ (z : Nat) (h : AH) (l0 : Option Nat) (l2 : Int32), I z h l0 l2 → PX11_removeItem_30 E post (fun h l0 l2 => ∃ z', z' < z ∧ I z' h l0 l2) h l0 l2) : ∀ (z : Nat) (h : AH) (l0 : Option Nat) (l2 : Int32), I z h l0 l2 → Go E X 3 0 0 30 [(0, aP l0), (2, aI l2)] [] h := by
  intro z
  induction z using Nat.strongRecOn with
  | _ z ih =>
    intro h l0 l2 hI
    exact bX11_removeItem_30 C D (fun h l0 l2 hJ => by obtain ⟨z', hz, hi⟩ := hJ; exact ih z' hz h l0 l2 hi) (step z h l0 l2 hI)
def PX11_removeItem_0 (E : EV) (post : Option AV → AH → Prop) (J30 : AH → Option Nat → Int32 → Prop) (h : AH) (l0 : Option Nat) (l1 : Int32) : Prop :=
  CV (sX11_isItem E) l0 11 [aI l1] h (kI fun x1 h2 => (¬ x1 = 0 → CV (sX11_note E) l0 11 [] h2 (kV fun h4 => rdP h4 l0 11 0 fun x5 => aldI h4 x5 0 (3 : Int32) fun x6 => astI h4 x5 0 (3 : Int32) (x6 - (1 : Int32)) fun h7 => CS (sX11_itemShape E) [aI l1] h7 (kI fun x8 h9 => J30 h9 l0 x8))) ∧ (x1 = 0 → post (some (aI (-1000001 : Int32))) h2))
theorem bX11_removeItem_0 {E : EV} {X : AX} {post : Option AV → AH → Prop} (C : Cb E X cX11_removeItem RX11 3 rmX11_removeItem) (D : Cr E X (some .int) rmX11_removeItem "removeItem" post) {J30 : AH → Option Nat → Int32 → Prop} (g30 : ∀ (h : AH) (l0 : Option Nat) (l2 : Int32), J30 h l0 l2 → Go E X 3 0 0 30 [(0, aP l0), (2, aI l2)] [] h) {h : AH} {l0 : Option Nat} {l1 : Int32} (w : PX11_removeItem_0 E post J30 h l0 l1) : Go E X 3 0 0 0 [(0, aP l0), (1, aI l1)] [] h := by
  unfold PX11_removeItem_0 at w
  refine r_aload_n C dX11_removeItem_0 rfl 0 rfl ?_
  refine r_iload_n C dX11_removeItem_1 rfl 1 rfl ?_
  refine r_cvI (rm' := rmX11_isItem) C mX11_isItem vX11_isItem k1349 [aI l1] [] rfl rfl (Nat.le_of_ble_eq_true rfl) (by decide) ⟨Nat.zero_le _, Nat.zero_le _⟩ 0 0 rfl rfl dX11_removeItem_2 w (fun x1 h2 w => ?_)
  refine r_if_ne C dX11_removeItem_5 (tgt := 11) rfl (fun hc => ?_) (fun hc => ?_)
  · have w := w.1 hc
    refine r_aload_n C dX11_removeItem_11 rfl 0 rfl ?_
    refine r_cvV (rm' := rmX11_note) C mX11_note vX11_note k1096 [] [] rfl rfl (Nat.le_of_ble_eq_true rfl) (by decide) ⟨Nat.zero_le _, Nat.zero_le _⟩ 0 0 rfl rfl dX11_removeItem_12 w (fun h4 w => ?_)
    refine r_aload_n C dX11_removeItem_15 rfl 0 rfl ?_
    refine r_getP C fcX11 (f := 0) (by decide) rfl k943 dX11_removeItem_16 (w.mono fun x5 w => ?_)
    refine r_iconst (v := 3) C dX11_removeItem_19 rfl ?_
    refine r_dup2 C dX11_removeItem_20 rfl rfl ?_
    refine r_iald C dX11_removeItem_21 (w.mono fun x6 w => ?_)
    refine r_iconst (v := 1) C dX11_removeItem_22 rfl ?_
    refine r_isub C dX11_removeItem_23 ?_
    refine r_iast C dX11_removeItem_24 (w.mono fun h7 w => ?_)
    refine r_iload_n C dX11_removeItem_25 rfl 1 rfl ?_
    refine r_csI (rm' := rmX11_itemShape) C mX11_itemShape vX11_itemShape k1281 [aI l1] [] rfl rfl (Nat.le_of_ble_eq_true rfl) (by decide) ⟨Nat.zero_le _, Nat.zero_le _⟩ 0 0 rfl rfl dX11_removeItem_26 w (fun x8 h9 w => ?_)
    refine r_istore_n C dX11_removeItem_29 rfl (by decide) rfl ?_
    exact r_sub [1, 0] rfl (g30 h9 l0 x8 w)
  · have w := w.2 hc
    refine r_ldc (v := -1000001) C dX11_removeItem_8 k1039 ?_
    exact r_iret C D rfl (Nat.zero_le _) (Nat.zero_le _) dX11_removeItem_10 w
theorem eX11_removeItem {E : EV} {post : Option AV → AH → Prop} {h : AH} {l0 : Option Nat} {l1 : Int32} {J30 : AH → Option Nat → Int32 → Prop} (g30 : ∀ X : AX, Cb E X cX11_removeItem RX11 3 rmX11_removeItem → Cr E X (some .int) rmX11_removeItem "removeItem" post → ∀ (h : AH) (l0 : Option Nat) (l2 : Int32), J30 h l0 l2 → Go E X 3 0 0 30 [(0, aP l0), (2, aI l2)] [] h) (w : PX11_removeItem_0 E post J30 h l0 l1) : sX11_removeItem E [aP l0, aI l1] h post := Spec.of RX11 rfl rfl (Nat.le_of_ble_eq_true rfl) fun X C D => bX11_removeItem_0 C D (g30 X C D) w
theorem dX11_setClearance_0 : decode cX11_setClearance 0 = .ok (.iload_n 1, 1) := by decide +kernel
theorem dX11_setClearance_1 : decode cX11_setClearance 1 = .ok (.iconst 0, 1) := by decide +kernel
theorem dX11_setClearance_2 : decode cX11_setClearance 2 = .ok (.iconst 5, 1) := by decide +kernel
theorem dX11_setClearance_3 : decode cX11_setClearance 3 = .ok (.invokestatic 46, 3) := by decide +kernel
theorem dX11_setClearance_6 : decode cX11_setClearance 6 = .ok (.ifCond .ne 6, 3) := by decide +kernel
theorem dX11_setClearance_9 : decode cX11_setClearance 9 = .ok (.ldc 145, 2) := by decide +kernel
theorem dX11_setClearance_11 : decode cX11_setClearance 11 = .ok (.ireturn, 1) := by decide +kernel
theorem dX11_setClearance_12 : decode cX11_setClearance 12 = .ok (.iconst 0, 1) := by decide +kernel
theorem dX11_setClearance_13 : decode cX11_setClearance 13 = .ok (.istore_n 2, 1) := by decide +kernel
theorem dX11_setClearance_14 : decode cX11_setClearance 14 = .ok (.iload_n 2, 1) := by decide +kernel
theorem dX11_setClearance_15 : decode cX11_setClearance 15 = .ok (.aload_n 0, 1) := by decide +kernel
theorem dX11_setClearance_16 : decode cX11_setClearance 16 = .ok (.getfield 7, 3) := by decide +kernel
theorem dX11_setClearance_19 : decode cX11_setClearance 19 = .ok (.iconst 3, 1) := by decide +kernel
theorem dX11_setClearance_20 : decode cX11_setClearance 20 = .ok (.iaload, 1) := by decide +kernel
theorem dX11_setClearance_21 : decode cX11_setClearance 21 = .ok (.if_icmp .ge 64, 3) := by decide +kernel
theorem dX11_setClearance_24 : decode cX11_setClearance 24 = .ok (.iconst 0, 1) := by decide +kernel
theorem dX11_setClearance_25 : decode cX11_setClearance 25 = .ok (.istore_n 3, 1) := by decide +kernel
theorem dX11_setClearance_26 : decode cX11_setClearance 26 = .ok (.iload_n 3, 1) := by decide +kernel
theorem dX11_setClearance_27 : decode cX11_setClearance 27 = .ok (.iload_n 2, 1) := by decide +kernel
theorem dX11_setClearance_28 : decode cX11_setClearance 28 = .ok (.if_icmp .ge 51, 3) := by decide +kernel
theorem dX11_setClearance_31 : decode cX11_setClearance 31 = .ok (.aload_n 0, 1) := by decide +kernel
theorem dX11_setClearance_32 : decode cX11_setClearance 32 = .ok (.iload_n 2, 1) := by decide +kernel
theorem dX11_setClearance_33 : decode cX11_setClearance 33 = .ok (.invokestatic 257, 3) := by decide +kernel
theorem dX11_setClearance_36 : decode cX11_setClearance 36 = .ok (.iload_n 3, 1) := by decide +kernel
theorem dX11_setClearance_37 : decode cX11_setClearance 37 = .ok (.invokestatic 257, 3) := by decide +kernel
theorem dX11_setClearance_40 : decode cX11_setClearance 40 = .ok (.aload_n 0, 1) := by decide +kernel
theorem dX11_setClearance_41 : decode cX11_setClearance 41 = .ok (.iload_n 3, 1) := by decide +kernel
theorem dX11_setClearance_42 : decode cX11_setClearance 42 = .ok (.invokevirtual 260, 3) := by decide +kernel
theorem dX11_setClearance_45 : decode cX11_setClearance 45 = .ok (.aload_n 0, 1) := by decide +kernel
theorem dX11_setClearance_46 : decode cX11_setClearance 46 = .ok (.iload_n 2, 1) := by decide +kernel
theorem dX11_setClearance_47 : decode cX11_setClearance 47 = .ok (.invokevirtual 260, 3) := by decide +kernel
theorem dX11_setClearance_50 : decode cX11_setClearance 50 = .ok (.isub, 1) := by decide +kernel
theorem dX11_setClearance_51 : decode cX11_setClearance 51 = .ok (.aload_n 0, 1) := by decide +kernel
theorem dX11_setClearance_52 : decode cX11_setClearance 52 = .ok (.iload_n 3, 1) := by decide +kernel
theorem dX11_setClearance_53 : decode cX11_setClearance 53 = .ok (.invokevirtual 263, 3) := by decide +kernel
theorem dX11_setClearance_56 : decode cX11_setClearance 56 = .ok (.aload_n 0, 1) := by decide +kernel
theorem dX11_setClearance_57 : decode cX11_setClearance 57 = .ok (.iload_n 2, 1) := by decide +kernel
theorem dX11_setClearance_58 : decode cX11_setClearance 58 = .ok (.invokevirtual 263, 3) := by decide +kernel
theorem dX11_setClearance_61 : decode cX11_setClearance 61 = .ok (.isub, 1) := by decide +kernel
theorem dX11_setClearance_62 : decode cX11_setClearance 62 = .ok (.iload_n 1, 1) := by decide +kernel
theorem dX11_setClearance_63 : decode cX11_setClearance 63 = .ok (.iconst 0, 1) := by decide +kernel
theorem dX11_setClearance_64 : decode cX11_setClearance 64 = .ok (.invokevirtual 103, 3) := by decide +kernel
theorem dX11_setClearance_67 : decode cX11_setClearance 67 = .ok (.ifCond .eq 6, 3) := by decide +kernel
theorem dX11_setClearance_70 : decode cX11_setClearance 70 = .ok (.ldc 42, 2) := by decide +kernel
theorem dX11_setClearance_72 : decode cX11_setClearance 72 = .ok (.ireturn, 1) := by decide +kernel
theorem dX11_setClearance_73 : decode cX11_setClearance 73 = .ok (.iinc 3 1, 3) := by decide +kernel
theorem dX11_setClearance_76 : decode cX11_setClearance 76 = .ok (.goto (-50), 3) := by decide +kernel
theorem dX11_setClearance_79 : decode cX11_setClearance 79 = .ok (.iinc 2 1, 3) := by decide +kernel
theorem dX11_setClearance_82 : decode cX11_setClearance 82 = .ok (.goto (-68), 3) := by decide +kernel
theorem dX11_setClearance_85 : decode cX11_setClearance 85 = .ok (.aload_n 0, 1) := by decide +kernel
theorem dX11_setClearance_86 : decode cX11_setClearance 86 = .ok (.invokevirtual 188, 3) := by decide +kernel
theorem dX11_setClearance_89 : decode cX11_setClearance 89 = .ok (.aload_n 0, 1) := by decide +kernel
theorem dX11_setClearance_90 : decode cX11_setClearance 90 = .ok (.getfield 7, 3) := by decide +kernel
theorem dX11_setClearance_93 : decode cX11_setClearance 93 = .ok (.iconst 2, 1) := by decide +kernel
theorem dX11_setClearance_94 : decode cX11_setClearance 94 = .ok (.iaload, 1) := by decide +kernel
theorem dX11_setClearance_95 : decode cX11_setClearance 95 = .ok (.istore_n 2, 1) := by decide +kernel
theorem dX11_setClearance_96 : decode cX11_setClearance 96 = .ok (.aload_n 0, 1) := by decide +kernel
theorem dX11_setClearance_97 : decode cX11_setClearance 97 = .ok (.getfield 7, 3) := by decide +kernel
theorem dX11_setClearance_100 : decode cX11_setClearance 100 = .ok (.iconst 2, 1) := by decide +kernel
theorem dX11_setClearance_101 : decode cX11_setClearance 101 = .ok (.iload_n 1, 1) := by decide +kernel
theorem dX11_setClearance_102 : decode cX11_setClearance 102 = .ok (.iastore, 1) := by decide +kernel
theorem dX11_setClearance_103 : decode cX11_setClearance 103 = .ok (.iload_n 2, 1) := by decide +kernel
theorem dX11_setClearance_104 : decode cX11_setClearance 104 = .ok (.ireturn, 1) := by decide +kernel
abbrev rmX11_setClearance : Room := { frames := 5, cells := 0, slots := 0, locals := 200 }
abbrev sX11_setClearance (E : EV) : List AV → AH → (Option AV → AH → Prop) → Prop := Spec E yX11_setClearance cX11_setClearance 4 (some .int) rmX11_setClearance
theorem mX11_setClearance : Mt yX11_setClearance cX11_setClearance 4 (some .int) 1 := ⟨k1280, k12, by decide +kernel⟩
theorem vX11_setClearance : MtV yX11_setClearance 11 := ⟨k1278, k1279, by decide, (RX11, TX11, 26), rfl, rfl⟩
def PX11_setClearance_26 (E : EV) (post : Option AV → AH → Prop) (J14 : AH → Option Nat → Int32 → Int32 → Prop) (J26 : AH → Option Nat → Int32 → Int32 → Int32 → Prop) (h : AH) (l0 : Option Nat) (l1 : Int32) (l2 : Int32) (l3 : Int32) : Prop :=
  (l2 ≤ l3 → J14 h l0 l1 (l2 + (1 : Int32))) ∧ (¬ l2 ≤ l3 → CS (sX11_itemShape E) [aI l2] h (kI fun x1 h2 => CS (sX11_itemShape E) [aI l3] h2 (kI fun x3 h4 => CV (sX11_itemX E) l0 11 [aI l3] h4 (kI fun x5 h6 => CV (sX11_itemX E) l0 11 [aI l2] h6 (kI fun x7 h8 => CV (sX11_itemY E) l0 11 [aI l3] h8 (kI fun x9 h10 => CV (sX11_itemY E) l0 11 [aI l2] h10 (kI fun x11 h12 => CV (sX11_isAny E) l0 11 [aI x1, aI x3, aI (x5 - x7), aI (x9 - x11), aI l1, aI (0 : Int32)] h12 (kI fun x13 h14 => (x13 = 0 → J26 h14 l0 l1 l2 (l3 + (1 : Int32))) ∧ (¬ x13 = 0 → post (some (aI (-1000002 : Int32))) h14)))))))))
theorem bX11_setClearance_26 {E : EV} {X : AX} {post : Option AV → AH → Prop} (C : Cb E X cX11_setClearance RX11 4 rmX11_setClearance) (D : Cr E X (some .int) rmX11_setClearance "setClearance" post) {J14 : AH → Option Nat → Int32 → Int32 → Prop} (g14 : ∀ (h : AH) (l0 : Option Nat) (l1 : Int32) (l2 : Int32), J14 h l0 l1 l2 → Go E X 4 0 0 14 [(0, aP l0), (1, aI l1), (2, aI l2)] [] h) {J26 : AH → Option Nat → Int32 → Int32 → Int32 → Prop} (g26 : ∀ (h : AH) (l0 : Option Nat) (l1 : Int32) (l2 : Int32) (l3 : Int32), J26 h l0 l1 l2 l3 → Go E X 4 0 0 26 [(0, aP l0), (1, aI l1), (2, aI l2), (3, aI l3)] [] h) {h : AH} {l0 : Option Nat} {l1 : Int32} {l2 : Int32} {l3 : Int32} (w : PX11_setClearance_26 E post J14 J26 h l0 l1 l2 l3) : Go E X 4 0 0 26 [(0, aP l0), (1, aI l1), (2, aI l2), (3, aI l3)] [] h := by
  unfold PX11_setClearance_26 at w
  refine r_iload_n C dX11_setClearance_26 rfl 3 rfl ?_
  refine r_iload_n C dX11_setClearance_27 rfl 2 rfl ?_
  refine r_icmp_ge C dX11_setClearance_28 (tgt := 79) rfl (fun hc => ?_) (fun hc => ?_)
  · have w := w.1 hc
    refine r_iinc C dX11_setClearance_79 2 rfl (v := 1) rfl (by decide) rfl ?_
    refine r_goto C dX11_setClearance_82 (tgt := 14) rfl ?_
    exact r_sub [1, 2, 0] rfl (g14 h l0 l1 (l2 + (1 : Int32)) w)
  · have w := w.2 hc
    refine r_aload_n C dX11_setClearance_31 rfl 0 rfl ?_
    refine r_iload_n C dX11_setClearance_32 rfl 2 rfl ?_
    refine r_csI (rm' := rmX11_itemShape) C mX11_itemShape vX11_itemShape k1281 [aI l2] [aP l0] rfl rfl (Nat.le_of_ble_eq_true rfl) (by decide) ⟨Nat.zero_le _, Nat.zero_le _⟩ 0 0 rfl rfl dX11_setClearance_33 w (fun x1 h2 w => ?_)
    refine r_iload_n C dX11_setClearance_36 rfl 3 rfl ?_
    refine r_csI (rm' := rmX11_itemShape) C mX11_itemShape vX11_itemShape k1281 [aI l3] [aI x1, aP l0] rfl rfl (Nat.le_of_ble_eq_true rfl) (by decide) ⟨Nat.zero_le _, Nat.zero_le _⟩ 0 0 rfl rfl dX11_setClearance_37 w (fun x3 h4 w => ?_)
    refine r_aload_n C dX11_setClearance_40 rfl 0 rfl ?_
    refine r_iload_n C dX11_setClearance_41 rfl 3 rfl ?_
    refine r_cvI (rm' := rmX11_itemX) C mX11_itemX vX11_itemX k1284 [aI l3] [aI x3, aI x1, aP l0] rfl rfl (Nat.le_of_ble_eq_true rfl) (by decide) ⟨Nat.zero_le _, Nat.zero_le _⟩ 0 0 rfl rfl dX11_setClearance_42 w (fun x5 h6 w => ?_)
    refine r_aload_n C dX11_setClearance_45 rfl 0 rfl ?_
    refine r_iload_n C dX11_setClearance_46 rfl 2 rfl ?_
    refine r_cvI (rm' := rmX11_itemX) C mX11_itemX vX11_itemX k1284 [aI l2] [aI x5, aI x3, aI x1, aP l0] rfl rfl (Nat.le_of_ble_eq_true rfl) (by decide) ⟨Nat.zero_le _, Nat.zero_le _⟩ 0 0 rfl rfl dX11_setClearance_47 w (fun x7 h8 w => ?_)
    refine r_isub C dX11_setClearance_50 ?_
    refine r_aload_n C dX11_setClearance_51 rfl 0 rfl ?_
    refine r_iload_n C dX11_setClearance_52 rfl 3 rfl ?_
    refine r_cvI (rm' := rmX11_itemY) C mX11_itemY vX11_itemY k1288 [aI l3] [aI (x5 - x7), aI x3, aI x1, aP l0] rfl rfl (Nat.le_of_ble_eq_true rfl) (by decide) ⟨Nat.zero_le _, Nat.zero_le _⟩ 0 0 rfl rfl dX11_setClearance_53 w (fun x9 h10 w => ?_)
    refine r_aload_n C dX11_setClearance_56 rfl 0 rfl ?_
    refine r_iload_n C dX11_setClearance_57 rfl 2 rfl ?_
    refine r_cvI (rm' := rmX11_itemY) C mX11_itemY vX11_itemY k1288 [aI l2] [aI x9, aI (x5 - x7), aI x3, aI x1, aP l0] rfl rfl (Nat.le_of_ble_eq_true rfl) (by decide) ⟨Nat.zero_le _, Nat.zero_le _⟩ 0 0 rfl rfl dX11_setClearance_58 w (fun x11 h12 w => ?_)
    refine r_isub C dX11_setClearance_61 ?_
    refine r_iload_n C dX11_setClearance_62 rfl 1 rfl ?_
    refine r_iconst (v := 0) C dX11_setClearance_63 rfl ?_
    refine r_cvI (rm' := rmX11_isAny) C mX11_isAny vX11_isAny k1221 [aI x1, aI x3, aI (x5 - x7), aI (x9 - x11), aI l1, aI (0 : Int32)] [] rfl rfl (Nat.le_of_ble_eq_true rfl) (by decide) ⟨Nat.zero_le _, Nat.zero_le _⟩ 0 0 rfl rfl dX11_setClearance_64 w (fun x13 h14 w => ?_)
    refine r_if_eq C dX11_setClearance_67 (tgt := 73) rfl (fun hc => ?_) (fun hc => ?_)
    · have w := w.1 hc
      refine r_iinc C dX11_setClearance_73 3 rfl (v := 1) rfl (by decide) rfl ?_
      refine r_goto C dX11_setClearance_76 (tgt := 26) rfl ?_
      exact r_sub [1, 2, 3, 0] rfl (g26 h14 l0 l1 l2 (l3 + (1 : Int32)) w)
    · have w := w.2 hc
      refine r_ldc (v := -1000002) C dX11_setClearance_70 k1027 ?_
      exact r_iret C D rfl (Nat.zero_le _) (Nat.zero_le _) dX11_setClearance_72 w
theorem lpX11_setClearance_26 {E : EV} {X : AX} {post : Option AV → AH → Prop} (C : Cb E X cX11_setClearance RX11 4 rmX11_setClearance) (D : Cr E X (some .int) rmX11_setClearance "setClearance" post) {J14 : AH → Option Nat → Int32 → Int32 → Prop} (g14 : ∀ (h : AH) (l0 : Option Nat) (l1 : Int32) (l2 : Int32), J14 h l0 l1 l2 → Go E X 4 0 0 14 [(0, aP l0), (1, aI l1), (2, aI l2)] [] h) (I : Nat → AH → Option Nat → Int32 → Int32 → Int32 → Prop) (step : ∀ (z : Nat) (h : AH) (l0 : Option Nat) (l1 : Int32) (l2 : Int32) (l3 : Int32), I z h l0 l1 l2 l3 → PX11_setClearance_26 E post J14 (fun h l0 l1 l2 l3 => ∃ z', z' < z ∧ I z' h l0 l1 l2 l3) h l0 l1 l2 l3) : ∀ (z : Nat) (h : AH) (l0 : Option Nat) (l1 : Int32) (l2 : Int32) (l3 : Int32), I z h l0 l1 l2 l3 → Go E X 4 0 0 26 [(0, aP l0), (1, aI l1), (2, aI l2), (3, aI l3)] [] h := by
  intro z
  induction z using Nat.strongRecOn with
  | _ z ih =>
    intro h l0 l1 l2 l3 hI
    exact bX11_setClearance_26 C D g14 (fun h l0 l1 l2 l3 hJ => by obtain ⟨z', hz, hi⟩ := hJ; exact ih z' hz h l0 l1 l2 l3 hi) (step z h l0 l1 l2 l3 hI)
def PX11_setClearance_14 (E : EV) (post : Option AV → AH → Prop) (J26 : AH → Option Nat → Int32 → Int32 → Int32 → Prop) (h : AH) (l0 : Option Nat) (l1 : Int32) (l2 : Int32) : Prop :=
  rdP h l0 11 0 fun x1 => aldI h x1 0 (3 : Int32) fun x2 => (x2 ≤ l2 → CV (sX11_note E) l0 11 [] h (kV fun h4 => rdP h4 l0 11 0 fun x5 => aldI h4 x5 0 (2 : Int32) fun x6 => rdP h4 l0 11 0 fun x8 => astI h4 x8 0 (2 : Int32) l1 fun h9 => post (some (aI x6)) h9)) ∧ (¬ x2 ≤ l2 → J26 h l0 l1 l2 (0 : Int32))
theorem bX11_setClearance_14 {E : EV} {X : AX} {post : Option AV → AH → Prop} (C : Cb E X cX11_setClearance RX11 4 rmX11_setClearance) (D : Cr E X (some .int) rmX11_setClearance "setClearance" post) {J26 : AH → Option Nat → Int32 → Int32 → Int32 → Prop} (g26 : ∀ (h : AH) (l0 : Option Nat) (l1 : Int32) (l2 : Int32) (l3 : Int32), J26 h l0 l1 l2 l3 → Go E X 4 0 0 26 [(0, aP l0), (1, aI l1), (2, aI l2), (3, aI l3)] [] h) {h : AH} {l0 : Option Nat} {l1 : Int32} {l2 : Int32} (w : PX11_setClearance_14 E post J26 h l0 l1 l2) : Go E X 4 0 0 14 [(0, aP l0), (1, aI l1), (2, aI l2)] [] h := by
  unfold PX11_setClearance_14 at w
  refine r_iload_n C dX11_setClearance_14 rfl 2 rfl ?_
  refine r_aload_n C dX11_setClearance_15 rfl 0 rfl ?_
  refine r_getP C fcX11 (f := 0) (by decide) rfl k943 dX11_setClearance_16 (w.mono fun x1 w => ?_)
  refine r_iconst (v := 3) C dX11_setClearance_19 rfl ?_
  refine r_iald C dX11_setClearance_20 (w.mono fun x2 w => ?_)
  refine r_icmp_ge C dX11_setClearance_21 (tgt := 85) rfl (fun hc => ?_) (fun hc => ?_)
  · have w := w.1 hc
    refine r_aload_n C dX11_setClearance_85 rfl 0 rfl ?_
    refine r_cvV (rm' := rmX11_note) C mX11_note vX11_note k1096 [] [] rfl rfl (Nat.le_of_ble_eq_true rfl) (by decide) ⟨Nat.zero_le _, Nat.zero_le _⟩ 0 0 rfl rfl dX11_setClearance_86 w (fun h4 w => ?_)
    refine r_aload_n C dX11_setClearance_89 rfl 0 rfl ?_
    refine r_getP C fcX11 (f := 0) (by decide) rfl k943 dX11_setClearance_90 (w.mono fun x5 w => ?_)
    refine r_iconst (v := 2) C dX11_setClearance_93 rfl ?_
    refine r_iald C dX11_setClearance_94 (w.mono fun x6 w => ?_)
    refine r_istore_n C dX11_setClearance_95 rfl (by decide) rfl ?_
    refine r_aload_n C dX11_setClearance_96 rfl 1 rfl ?_
    refine r_getP C fcX11 (f := 0) (by decide) rfl k943 dX11_setClearance_97 (w.mono fun x8 w => ?_)
    refine r_iconst (v := 2) C dX11_setClearance_100 rfl ?_
    refine r_iload_n C dX11_setClearance_101 rfl 2 rfl ?_
    refine r_iast C dX11_setClearance_102 (w.mono fun h9 w => ?_)
    refine r_iload_n C dX11_setClearance_103 rfl 0 rfl ?_
    exact r_iret C D rfl (Nat.zero_le _) (Nat.zero_le _) dX11_setClearance_104 w
  · have w := w.2 hc
    refine r_iconst (v := 0) C dX11_setClearance_24 rfl ?_
    refine r_istore_n C dX11_setClearance_25 rfl (by decide) rfl ?_
    exact r_sub [1, 2, 3, 0] rfl (g26 h l0 l1 l2 (0 : Int32) w)
def PX11_setClearance_0 (E : EV) (post : Option AV → AH → Prop) (J14 : AH → Option Nat → Int32 → Int32 → Prop) (h : AH) (l0 : Option Nat) (l1 : Int32) : Prop :=
  CS (sX11_in E) [aI l1, aI (0 : Int32), aI (5 : Int32)] h (kI fun x1 h2 => (¬ x1 = 0 → J14 h2 l0 l1 (0 : Int32)) ∧ (x1 = 0 → post (some (aI (-1000001 : Int32))) h2))
theorem bX11_setClearance_0 {E : EV} {X : AX} {post : Option AV → AH → Prop} (C : Cb E X cX11_setClearance RX11 4 rmX11_setClearance) (D : Cr E X (some .int) rmX11_setClearance "setClearance" post) {J14 : AH → Option Nat → Int32 → Int32 → Prop} (g14 : ∀ (h : AH) (l0 : Option Nat) (l1 : Int32) (l2 : Int32), J14 h l0 l1 l2 → Go E X 4 0 0 14 [(0, aP l0), (1, aI l1), (2, aI l2)] [] h) {h : AH} {l0 : Option Nat} {l1 : Int32} (w : PX11_setClearance_0 E post J14 h l0 l1) : Go E X 4 0 0 0 [(0, aP l0), (1, aI l1)] [] h := by
  unfold PX11_setClearance_0 at w
  refine r_iload_n C dX11_setClearance_0 rfl 1 rfl ?_
  refine r_iconst (v := 0) C dX11_setClearance_1 rfl ?_
  refine r_iconst (v := 5) C dX11_setClearance_2 rfl ?_
  refine r_csI (rm' := rmX11_in) C mX11_in vX11_in k1036 [aI l1, aI (0 : Int32), aI (5 : Int32)] [] rfl rfl (Nat.le_of_ble_eq_true rfl) (by decide) ⟨Nat.zero_le _, Nat.zero_le _⟩ 0 0 rfl rfl dX11_setClearance_3 w (fun x1 h2 w => ?_)
  refine r_if_ne C dX11_setClearance_6 (tgt := 12) rfl (fun hc => ?_) (fun hc => ?_)
  · have w := w.1 hc
    refine r_iconst (v := 0) C dX11_setClearance_12 rfl ?_
    refine r_istore_n C dX11_setClearance_13 rfl (by decide) rfl ?_
    exact r_sub [1, 2, 0] rfl (g14 h2 l0 l1 (0 : Int32) w)
  · have w := w.2 hc
    refine r_ldc (v := -1000001) C dX11_setClearance_9 k1039 ?_
    exact r_iret C D rfl (Nat.zero_le _) (Nat.zero_le _) dX11_setClearance_11 w
theorem eX11_setClearance {E : EV} {post : Option AV → AH → Prop} {h : AH} {l0 : Option Nat} {l1 : Int32} {J14 : AH → Option Nat → Int32 → Int32 → Prop} (g14 : ∀ X : AX, Cb E X cX11_setClearance RX11 4 rmX11_setClearance → Cr E X (some .int) rmX11_setClearance "setClearance" post → ∀ (h : AH) (l0 : Option Nat) (l1 : Int32) (l2 : Int32), J14 h l0 l1 l2 → Go E X 4 0 0 14 [(0, aP l0), (1, aI l1), (2, aI l2)] [] h) (w : PX11_setClearance_0 E post J14 h l0 l1) : sX11_setClearance E [aP l0, aI l1] h post := Spec.of RX11 rfl rfl (Nat.le_of_ble_eq_true rfl) fun X C D => bX11_setClearance_0 C D (g14 X C D) w
theorem dX11_setContainer_0 : decode cX11_setContainer 0 = .ok (.iload_n 1, 1) := by decide +kernel
theorem dX11_setContainer_1 : decode cX11_setContainer 1 = .ok (.iconst 1, 1) := by decide +kernel
theorem dX11_setContainer_2 : decode cX11_setContainer 2 = .ok (.bipush 40, 2) := by decide +kernel
theorem dX11_setContainer_4 : decode cX11_setContainer 4 = .ok (.invokestatic 46, 3) := by decide +kernel
theorem dX11_setContainer_7 : decode cX11_setContainer 7 = .ok (.ifCond .eq 13, 3) := by decide +kernel
theorem dX11_setContainer_10 : decode cX11_setContainer 10 = .ok (.iload_n 2, 1) := by decide +kernel
theorem dX11_setContainer_11 : decode cX11_setContainer 11 = .ok (.iconst 1, 1) := by decide +kernel
theorem dX11_setContainer_12 : decode cX11_setContainer 12 = .ok (.bipush 40, 2) := by decide +kernel
theorem dX11_setContainer_14 : decode cX11_setContainer 14 = .ok (.invokestatic 46, 3) := by decide +kernel
theorem dX11_setContainer_17 : decode cX11_setContainer 17 = .ok (.ifCond .ne 6, 3) := by decide +kernel
theorem dX11_setContainer_20 : decode cX11_setContainer 20 = .ok (.ldc 145, 2) := by decide +kernel
theorem dX11_setContainer_22 : decode cX11_setContainer 22 = .ok (.ireturn, 1) := by decide +kernel
theorem dX11_setContainer_23 : decode cX11_setContainer 23 = .ok (.aload_n 0, 1) := by decide +kernel
theorem dX11_setContainer_24 : decode cX11_setContainer 24 = .ok (.invokevirtual 188, 3) := by decide +kernel
theorem dX11_setContainer_27 : decode cX11_setContainer 27 = .ok (.aload_n 0, 1) := by decide +kernel
theorem dX11_setContainer_28 : decode cX11_setContainer 28 = .ok (.getfield 7, 3) := by decide +kernel
theorem dX11_setContainer_31 : decode cX11_setContainer 31 = .ok (.iconst 3, 1) := by decide +kernel
theorem dX11_setContainer_32 : decode cX11_setContainer 32 = .ok (.iaload, 1) := by decide +kernel
theorem dX11_setContainer_33 : decode cX11_setContainer 33 = .ok (.istore_n 3, 1) := by decide +kernel
theorem dX11_setContainer_34 : decode cX11_setContainer 34 = .ok (.aload_n 0, 1) := by decide +kernel
theorem dX11_setContainer_35 : decode cX11_setContainer 35 = .ok (.getfield 7, 3) := by decide +kernel
theorem dX11_setContainer_38 : decode cX11_setContainer 38 = .ok (.iconst 0, 1) := by decide +kernel
theorem dX11_setContainer_39 : decode cX11_setContainer 39 = .ok (.iload_n 1, 1) := by decide +kernel
theorem dX11_setContainer_40 : decode cX11_setContainer 40 = .ok (.iastore, 1) := by decide +kernel
theorem dX11_setContainer_41 : decode cX11_setContainer 41 = .ok (.aload_n 0, 1) := by decide +kernel
theorem dX11_setContainer_42 : decode cX11_setContainer 42 = .ok (.getfield 7, 3) := by decide +kernel
theorem dX11_setContainer_45 : decode cX11_setContainer 45 = .ok (.iconst 1, 1) := by decide +kernel
theorem dX11_setContainer_46 : decode cX11_setContainer 46 = .ok (.iload_n 2, 1) := by decide +kernel
theorem dX11_setContainer_47 : decode cX11_setContainer 47 = .ok (.iastore, 1) := by decide +kernel
theorem dX11_setContainer_48 : decode cX11_setContainer 48 = .ok (.aload_n 0, 1) := by decide +kernel
theorem dX11_setContainer_49 : decode cX11_setContainer 49 = .ok (.getfield 7, 3) := by decide +kernel
theorem dX11_setContainer_52 : decode cX11_setContainer 52 = .ok (.iconst 3, 1) := by decide +kernel
theorem dX11_setContainer_53 : decode cX11_setContainer 53 = .ok (.iconst 0, 1) := by decide +kernel
theorem dX11_setContainer_54 : decode cX11_setContainer 54 = .ok (.iastore, 1) := by decide +kernel
theorem dX11_setContainer_55 : decode cX11_setContainer 55 = .ok (.iload_n 3, 1) := by decide +kernel
theorem dX11_setContainer_56 : decode cX11_setContainer 56 = .ok (.ireturn, 1) := by decide +kernel
abbrev rmX11_setContainer : Room := { frames := 1, cells := 0, slots := 0, locals := 40 }
abbrev sX11_setContainer (E : EV) : List AV → AH → (Option AV → AH → Prop) → Prop := Spec E yX11_setContainer cX11_setContainer 4 (some .int) rmX11_setContainer
theorem mX11_setContainer : Mt yX11_setContainer cX11_setContainer 4 (some .int) 2 := ⟨k1295, k12, by decide +kernel⟩
theorem vX11_setContainer : MtV yX11_setContainer 11 := ⟨k1293, k1294, by decide, (RX11, TX11, 26), rfl, rfl⟩
def PX11_setContainer_0 (E : EV) (post : Option AV → AH → Prop) (h : AH) (l0 : Option Nat) (l1 : Int32) (l2 : Int32) : Prop :=
  CS (sX11_in E) [aI l1, aI (1 : Int32), aI (40 : Int32)] h (kI fun x1 h2 => (x1 = 0 → post (some (aI (-1000001 : Int32))) h2) ∧ (¬ x1 = 0 → CS (sX11_in E) [aI l2, aI (1 : Int32), aI (40 : Int32)] h2 (kI fun x3 h4 => (¬ x3 = 0 → CV (sX11_note E) l0 11 [] h4 (kV fun h6 => rdP h6 l0 11 0 fun x7 => aldI h6 x7 0 (3 : Int32) fun x8 => rdP h6 l0 11 0 fun x10 => astI h6 x10 0 (0 : Int32) l1 fun h11 => rdP h11 l0 11 0 fun x12 => astI h11 x12 0 (1 : Int32) l2 fun h13 => rdP h13 l0 11 0 fun x14 => astI h13 x14 0 (3 : Int32) (0 : Int32) fun h15 => post (some (aI x8)) h15)) ∧ (x3 = 0 → post (some (aI (-1000001 : Int32))) h4))))
theorem bX11_setContainer_0 {E : EV} {X : AX} {post : Option AV → AH → Prop} (C : Cb E X cX11_setContainer RX11 4 rmX11_setContainer) (D : Cr E X (some .int) rmX11_setContainer "setContainer" post) {h : AH} {l0 : Option Nat} {l1 : Int32} {l2 : Int32} (w : PX11_setContainer_0 E post h l0 l1 l2) : Go E X 4 0 0 0 [(0, aP l0), (1, aI l1), (2, aI l2)] [] h := by
  unfold PX11_setContainer_0 at w
  refine r_iload_n C dX11_setContainer_0 rfl 1 rfl ?_
  refine r_iconst (v := 1) C dX11_setContainer_1 rfl ?_
  refine r_bipush (v := 40) C dX11_setContainer_2 rfl ?_
  refine r_csI (rm' := rmX11_in) C mX11_in vX11_in k1036 [aI l1, aI (1 : Int32), aI (40 : Int32)] [] rfl rfl (Nat.le_of_ble_eq_true rfl) (by decide) ⟨Nat.zero_le _, Nat.zero_le _⟩ 0 0 rfl rfl dX11_setContainer_4 w (fun x1 h2 w => ?_)
  refine r_if_eq C dX11_setContainer_7 (tgt := 20) rfl (fun hc => ?_) (fun hc => ?_)
  · have w := w.1 hc
    refine r_ldc (v := -1000001) C dX11_setContainer_20 k1039 ?_
    exact r_iret C D rfl (Nat.zero_le _) (Nat.zero_le _) dX11_setContainer_22 w
  · have w := w.2 hc
    refine r_iload_n C dX11_setContainer_10 rfl 2 rfl ?_
    refine r_iconst (v := 1) C dX11_setContainer_11 rfl ?_
    refine r_bipush (v := 40) C dX11_setContainer_12 rfl ?_
    refine r_csI (rm' := rmX11_in) C mX11_in vX11_in k1036 [aI l2, aI (1 : Int32), aI (40 : Int32)] [] rfl rfl (Nat.le_of_ble_eq_true rfl) (by decide) ⟨Nat.zero_le _, Nat.zero_le _⟩ 0 0 rfl rfl dX11_setContainer_14 w (fun x3 h4 w => ?_)
    refine r_if_ne C dX11_setContainer_17 (tgt := 23) rfl (fun hc => ?_) (fun hc => ?_)
    · have w := w.1 hc
      refine r_aload_n C dX11_setContainer_23 rfl 0 rfl ?_
      refine r_cvV (rm' := rmX11_note) C mX11_note vX11_note k1096 [] [] rfl rfl (Nat.le_of_ble_eq_true rfl) (by decide) ⟨Nat.zero_le _, Nat.zero_le _⟩ 0 0 rfl rfl dX11_setContainer_24 w (fun h6 w => ?_)
      refine r_aload_n C dX11_setContainer_27 rfl 0 rfl ?_
      refine r_getP C fcX11 (f := 0) (by decide) rfl k943 dX11_setContainer_28 (w.mono fun x7 w => ?_)
      refine r_iconst (v := 3) C dX11_setContainer_31 rfl ?_
      refine r_iald C dX11_setContainer_32 (w.mono fun x8 w => ?_)
      refine r_istore_n C dX11_setContainer_33 rfl (by decide) rfl ?_
      refine r_aload_n C dX11_setContainer_34 rfl 1 rfl ?_
      refine r_getP C fcX11 (f := 0) (by decide) rfl k943 dX11_setContainer_35 (w.mono fun x10 w => ?_)
      refine r_iconst (v := 0) C dX11_setContainer_38 rfl ?_
      refine r_iload_n C dX11_setContainer_39 rfl 2 rfl ?_
      refine r_iast C dX11_setContainer_40 (w.mono fun h11 w => ?_)
      refine r_aload_n C dX11_setContainer_41 rfl 1 rfl ?_
      refine r_getP C fcX11 (f := 0) (by decide) rfl k943 dX11_setContainer_42 (w.mono fun x12 w => ?_)
      refine r_iconst (v := 1) C dX11_setContainer_45 rfl ?_
      refine r_iload_n C dX11_setContainer_46 rfl 3 rfl ?_
      refine r_iast C dX11_setContainer_47 (w.mono fun h13 w => ?_)
      refine r_aload_n C dX11_setContainer_48 rfl 1 rfl ?_
      refine r_getP C fcX11 (f := 0) (by decide) rfl k943 dX11_setContainer_49 (w.mono fun x14 w => ?_)
      refine r_iconst (v := 3) C dX11_setContainer_52 rfl ?_
      refine r_iconst (v := 0) C dX11_setContainer_53 rfl ?_
      refine r_iast C dX11_setContainer_54 (w.mono fun h15 w => ?_)
      refine r_iload_n C dX11_setContainer_55 rfl 0 rfl ?_
      exact r_iret C D rfl (Nat.zero_le _) (Nat.zero_le _) dX11_setContainer_56 w
    · have w := w.2 hc
      refine r_ldc (v := -1000001) C dX11_setContainer_20 k1039 ?_
      exact r_iret C D rfl (Nat.zero_le _) (Nat.zero_le _) dX11_setContainer_22 w
theorem eX11_setContainer {E : EV} {post : Option AV → AH → Prop} {h : AH} {l0 : Option Nat} {l1 : Int32} {l2 : Int32} (w : PX11_setContainer_0 E post h l0 l1 l2) : sX11_setContainer E [aP l0, aI l1, aI l2] h post := Spec.of RX11 rfl rfl (Nat.le_of_ble_eq_true rfl) fun X C D => bX11_setContainer_0 C D w
theorem dX11_slide_0 : decode cX11_slide 0 = .ok (.aload_n 0, 1) := by decide +kernel
theorem dX11_slide_1 : decode cX11_slide 1 = .ok (.iload_n 1, 1) := by decide +kernel
theorem dX11_slide_2 : decode cX11_slide 2 = .ok (.iload_n 2, 1) := by decide +kernel
theorem dX11_slide_3 : decode cX11_slide 3 = .ok (.invokevirtual 233, 3) := by decide +kernel
theorem dX11_slide_6 : decode cX11_slide 6 = .ok (.ifCond .eq 33, 3) := by decide +kernel
theorem dX11_slide_9 : decode cX11_slide 9 = .ok (.iload_n 3, 1) := by decide +kernel
theorem dX11_slide_10 : decode cX11_slide 10 = .ok (.iload 4, 2) := by decide +kernel
theorem dX11_slide_12 : decode cX11_slide 12 = .ok (.invokestatic 236, 3) := by decide +kernel
theorem dX11_slide_15 : decode cX11_slide 15 = .ok (.ifCond .eq 24, 3) := by decide +kernel
theorem dX11_slide_18 : decode cX11_slide 18 = .ok (.iload 5, 2) := by decide +kernel
theorem dX11_slide_20 : decode cX11_slide 20 = .ok (.iconst 0, 1) := by decide +kernel
theorem dX11_slide_21 : decode cX11_slide 21 = .ok (.bipush 7, 2) := by decide +kernel
theorem dX11_slide_23 : decode cX11_slide 23 = .ok (.invokestatic 46, 3) := by decide +kernel
theorem dX11_slide_26 : decode cX11_slide 26 = .ok (.ifCond .eq 13, 3) := by decide +kernel
theorem dX11_slide_29 : decode cX11_slide 29 = .ok (.iload 6, 2) := by decide +kernel
theorem dX11_slide_31 : decode cX11_slide 31 = .ok (.iconst 0, 1) := by decide +kernel
theorem dX11_slide_32 : decode cX11_slide 32 = .ok (.iconst 1, 1) := by decide +kernel
theorem dX11_slide_33 : decode cX11_slide 33 = .ok (.invokestatic 46, 3) := by decide +kernel
theorem dX11_slide_36 : decode cX11_slide 36 = .ok (.ifCond .ne 6, 3) := by decide +kernel
theorem dX11_slide_39 : decode cX11_slide 39 = .ok (.ldc 145, 2) := by decide +kernel
theorem dX11_slide_41 : decode cX11_slide 41 = .ok (.ireturn, 1) := by decide +kernel
theorem dX11_slide_42 : decode cX11_slide 42 = .ok (.aload_n 0, 1) := by decide +kernel
theorem dX11_slide_43 : decode cX11_slide 43 = .ok (.iload_n 1, 1) := by decide +kernel
theorem dX11_slide_44 : decode cX11_slide 44 = .ok (.invokevirtual 195, 3) := by decide +kernel
theorem dX11_slide_47 : decode cX11_slide 47 = .ok (.ifCond .ne 30, 3) := by decide +kernel
theorem dX11_slide_50 : decode cX11_slide 50 = .ok (.aload_n 0, 1) := by decide +kernel
theorem dX11_slide_51 : decode cX11_slide 51 = .ok (.iload_n 2, 1) := by decide +kernel
theorem dX11_slide_52 : decode cX11_slide 52 = .ok (.invokevirtual 195, 3) := by decide +kernel
theorem dX11_slide_55 : decode cX11_slide 55 = .ok (.ifCond .ne 22, 3) := by decide +kernel
theorem dX11_slide_58 : decode cX11_slide 58 = .ok (.aload_n 0, 1) := by decide +kernel
theorem dX11_slide_59 : decode cX11_slide 59 = .ok (.iload_n 1, 1) := by decide +kernel
theorem dX11_slide_60 : decode cX11_slide 60 = .ok (.invokestatic 50, 3) := by decide +kernel
theorem dX11_slide_63 : decode cX11_slide 63 = .ok (.iload_n 2, 1) := by decide +kernel
theorem dX11_slide_64 : decode cX11_slide 64 = .ok (.invokestatic 50, 3) := by decide +kernel
theorem dX11_slide_67 : decode cX11_slide 67 = .ok (.iload_n 3, 1) := by decide +kernel
theorem dX11_slide_68 : decode cX11_slide 68 = .ok (.iload 4, 2) := by decide +kernel
theorem dX11_slide_70 : decode cX11_slide 70 = .ok (.invokevirtual 239, 3) := by decide +kernel
theorem dX11_slide_73 : decode cX11_slide 73 = .ok (.iconst 2, 1) := by decide +kernel
theorem dX11_slide_74 : decode cX11_slide 74 = .ok (.if_icmp .ne 6, 3) := by decide +kernel
theorem dX11_slide_77 : decode cX11_slide 77 = .ok (.ldc 42, 2) := by decide +kernel
theorem dX11_slide_79 : decode cX11_slide 79 = .ok (.ireturn, 1) := by decide +kernel
theorem dX11_slide_80 : decode cX11_slide 80 = .ok (.aload_n 0, 1) := by decide +kernel
theorem dX11_slide_81 : decode cX11_slide 81 = .ok (.iload_n 1, 1) := by decide +kernel
theorem dX11_slide_82 : decode cX11_slide 82 = .ok (.invokestatic 50, 3) := by decide +kernel
theorem dX11_slide_85 : decode cX11_slide 85 = .ok (.iload_n 2, 1) := by decide +kernel
theorem dX11_slide_86 : decode cX11_slide 86 = .ok (.invokestatic 50, 3) := by decide +kernel
theorem dX11_slide_89 : decode cX11_slide 89 = .ok (.iload_n 3, 1) := by decide +kernel
theorem dX11_slide_90 : decode cX11_slide 90 = .ok (.iload 4, 2) := by decide +kernel
theorem dX11_slide_92 : decode cX11_slide 92 = .ok (.iload 5, 2) := by decide +kernel
theorem dX11_slide_94 : decode cX11_slide 94 = .ok (.invokevirtual 250, 3) := by decide +kernel
theorem dX11_slide_97 : decode cX11_slide 97 = .ok (.ifCond .eq 19, 3) := by decide +kernel
theorem dX11_slide_100 : decode cX11_slide 100 = .ok (.aload_n 0, 1) := by decide +kernel
theorem dX11_slide_101 : decode cX11_slide 101 = .ok (.getfield 142, 3) := by decide +kernel
theorem dX11_slide_104 : decode cX11_slide 104 = .ok (.aload_n 0, 1) := by decide +kernel
theorem dX11_slide_105 : decode cX11_slide 105 = .ok (.getfield 136, 3) := by decide +kernel
theorem dX11_slide_108 : decode cX11_slide 108 = .ok (.iload 6, 2) := by decide +kernel
theorem dX11_slide_110 : decode cX11_slide 110 = .ok (.invokestatic 246, 3) := by decide +kernel
theorem dX11_slide_113 : decode cX11_slide 113 = .ok (.goto 5, 3) := by decide +kernel
theorem dX11_slide_116 : decode cX11_slide 116 = .ok (.ldc 226, 2) := by decide +kernel
theorem dX11_slide_118 : decode cX11_slide 118 = .ok (.ireturn, 1) := by decide +kernel
abbrev rmX11_slide : Room := { frames := 6, cells := 0, slots := 0, locals := 240 }
abbrev sX11_slide (E : EV) : List AV → AH → (Option AV → AH → Prop) → Prop := Spec E yX11_slide cX11_slide 7 (some .int) rmX11_slide
theorem mX11_slide : Mt yX11_slide cX11_slide 7 (some .int) 6 := ⟨k1266, k12, by decide +kernel⟩
theorem vX11_slide : MtV yX11_slide 11 := ⟨k1264, k1265, by decide, (RX11, TX11, 26), rfl, rfl⟩
def PX11_slide_0 (E : EV) (post : Option AV → AH → Prop) (h : AH) (l0 : Option Nat) (l1 : Int32) (l2 : Int32) (l3 : Int32) (l4 : Int32) (l5 : Int32) (l6 : Int32) : Prop :=
  CV (sX11_areSlots E) l0 11 [aI l1, aI l2] h (kI fun x1 h2 => (x1 = 0 → post (some (aI (-1000001 : Int32))) h2) ∧ (¬ x1 = 0 → CS (sX11_isPlace E) [aI l3, aI l4] h2 (kI fun x3 h4 => (x3 = 0 → post (some (aI (-1000001 : Int32))) h4) ∧ (¬ x3 = 0 → CS (sX11_in E) [aI l5, aI (0 : Int32), aI (7 : Int32)] h4 (kI fun x5 h6 => (x5 = 0 → post (some (aI (-1000001 : Int32))) h6) ∧ (¬ x5 = 0 → CS (sX11_in E) [aI l6, aI (0 : Int32), aI (1 : Int32)] h6 (kI fun x7 h8 => (¬ x7 = 0 → CV (sX11_isEmpty E) l0 11 [aI l1] h8 (kI fun x9 h10 => (¬ x9 = 0 → post (some (aI (-1000002 : Int32))) h10) ∧ (x9 = 0 → CV (sX11_isEmpty E) l0 11 [aI l2] h10 (kI fun x11 h12 => (¬ x11 = 0 → post (some (aI (-1000002 : Int32))) h12) ∧ (x11 = 0 → CS (sX11_slotAt E) [aI l1] h12 (kI fun x13 h14 => CS (sX11_slotAt E) [aI l2] h14 (kI fun x15 h16 => CV (sX11_lies E) l0 11 [aI x13, aI x15, aI l3, aI l4] h16 (kI fun x17 h18 => (¬ x17 = (2 : Int32) → CS (sX11_slotAt E) [aI l1] h18 (kI fun x19 h20 => CS (sX11_slotAt E) [aI l2] h20 (kI fun x21 h22 => CV (sX11_stops E) l0 11 [aI x19, aI x21, aI l3, aI l4, aI l5] h22 (kI fun x23 h24 => (x23 = 0 → post (some (aI (-1000009 : Int32))) h24) ∧ (¬ x23 = 0 → rdJ h24 l0 11 11 fun x25 => rdJ h24 l0 11 12 fun x26 => CS (sX11_part E) [aJ x25, aJ x26, aI l6] h24 (kI fun x27 h28 => post (some (aI x27)) h28)))))) ∧ (x17 = (2 : Int32) → post (some (aI (-1000002 : Int32))) h18))))))))) ∧ (x7 = 0 → post (some (aI (-1000001 : Int32))) h8))))))))
theorem bX11_slide_0 {E : EV} {X : AX} {post : Option AV → AH → Prop} (C : Cb E X cX11_slide RX11 7 rmX11_slide) (D : Cr E X (some .int) rmX11_slide "slide" post) {h : AH} {l0 : Option Nat} {l1 : Int32} {l2 : Int32} {l3 : Int32} {l4 : Int32} {l5 : Int32} {l6 : Int32} (w : PX11_slide_0 E post h l0 l1 l2 l3 l4 l5 l6) : Go E X 7 0 0 0 [(0, aP l0), (1, aI l1), (2, aI l2), (3, aI l3), (4, aI l4), (5, aI l5), (6, aI l6)] [] h := by
  unfold PX11_slide_0 at w
  refine r_aload_n C dX11_slide_0 rfl 0 rfl ?_
  refine r_iload_n C dX11_slide_1 rfl 1 rfl ?_
  refine r_iload_n C dX11_slide_2 rfl 2 rfl ?_
  refine r_cvI (rm' := rmX11_areSlots) C mX11_areSlots vX11_areSlots k1210 [aI l1, aI l2] [] rfl rfl (Nat.le_of_ble_eq_true rfl) (by decide) ⟨Nat.zero_le _, Nat.zero_le _⟩ 0 0 rfl rfl dX11_slide_3 w (fun x1 h2 w => ?_)
  refine r_if_eq C dX11_slide_6 (tgt := 39) rfl (fun hc => ?_) (fun hc => ?_)
  · have w := w.1 hc
    refine r_ldc (v := -1000001) C dX11_slide_39 k1039 ?_
    exact r_iret C D rfl (Nat.zero_le _) (Nat.zero_le _) dX11_slide_41 w
  · have w := w.2 hc
    refine r_iload_n C dX11_slide_9 rfl 3 rfl ?_
    refine r_iload C dX11_slide_10 4 rfl ?_
    refine r_csI (rm' := rmX11_isPlace) C mX11_isPlace vX11_isPlace k1214 [aI l3, aI l4] [] rfl rfl (Nat.le_of_ble_eq_true rfl) (by decide) ⟨Nat.zero_le _, Nat.zero_le _⟩ 0 0 rfl rfl dX11_slide_12 w (fun x3 h4 w => ?_)
    refine r_if_eq C dX11_slide_15 (tgt := 39) rfl (fun hc => ?_) (fun hc => ?_)
    · have w := w.1 hc
      refine r_ldc (v := -1000001) C dX11_slide_39 k1039 ?_
      exact r_iret C D rfl (Nat.zero_le _) (Nat.zero_le _) dX11_slide_41 w
    · have w := w.2 hc
      refine r_iload C dX11_slide_18 5 rfl ?_
      refine r_iconst (v := 0) C dX11_slide_20 rfl ?_
      refine r_bipush (v := 7) C dX11_slide_21 rfl ?_
      refine r_csI (rm' := rmX11_in) C mX11_in vX11_in k1036 [aI l5, aI (0 : Int32), aI (7 : Int32)] [] rfl rfl (Nat.le_of_ble_eq_true rfl) (by decide) ⟨Nat.zero_le _, Nat.zero_le _⟩ 0 0 rfl rfl dX11_slide_23 w (fun x5 h6 w => ?_)
      refine r_if_eq C dX11_slide_26 (tgt := 39) rfl (fun hc => ?_) (fun hc => ?_)
      · have w := w.1 hc
        refine r_ldc (v := -1000001) C dX11_slide_39 k1039 ?_
        exact r_iret C D rfl (Nat.zero_le _) (Nat.zero_le _) dX11_slide_41 w
      · have w := w.2 hc
        refine r_iload C dX11_slide_29 6 rfl ?_
        refine r_iconst (v := 0) C dX11_slide_31 rfl ?_
        refine r_iconst (v := 1) C dX11_slide_32 rfl ?_
        refine r_csI (rm' := rmX11_in) C mX11_in vX11_in k1036 [aI l6, aI (0 : Int32), aI (1 : Int32)] [] rfl rfl (Nat.le_of_ble_eq_true rfl) (by decide) ⟨Nat.zero_le _, Nat.zero_le _⟩ 0 0 rfl rfl dX11_slide_33 w (fun x7 h8 w => ?_)
        refine r_if_ne C dX11_slide_36 (tgt := 42) rfl (fun hc => ?_) (fun hc => ?_)
        · have w := w.1 hc
          refine r_aload_n C dX11_slide_42 rfl 0 rfl ?_
          refine r_iload_n C dX11_slide_43 rfl 1 rfl ?_
          refine r_cvI (rm' := rmX11_isEmpty) C mX11_isEmpty vX11_isEmpty k1111 [aI l1] [] rfl rfl (Nat.le_of_ble_eq_true rfl) (by decide) ⟨Nat.zero_le _, Nat.zero_le _⟩ 0 0 rfl rfl dX11_slide_44 w (fun x9 h10 w => ?_)
          refine r_if_ne C dX11_slide_47 (tgt := 77) rfl (fun hc => ?_) (fun hc => ?_)
          · have w := w.1 hc
            refine r_ldc (v := -1000002) C dX11_slide_77 k1027 ?_
            exact r_iret C D rfl (Nat.zero_le _) (Nat.zero_le _) dX11_slide_79 w
          · have w := w.2 hc
            refine r_aload_n C dX11_slide_50 rfl 0 rfl ?_
            refine r_iload_n C dX11_slide_51 rfl 2 rfl ?_
            refine r_cvI (rm' := rmX11_isEmpty) C mX11_isEmpty vX11_isEmpty k1111 [aI l2] [] rfl rfl (Nat.le_of_ble_eq_true rfl) (by decide) ⟨Nat.zero_le _, Nat.zero_le _⟩ 0 0 rfl rfl dX11_slide_52 w (fun x11 h12 w => ?_)
            refine r_if_ne C dX11_slide_55 (tgt := 77) rfl (fun hc => ?_) (fun hc => ?_)
            · have w := w.1 hc
              refine r_ldc (v := -1000002) C dX11_slide_77 k1027 ?_
              exact r_iret C D rfl (Nat.zero_le _) (Nat.zero_le _) dX11_slide_79 w
            · have w := w.2 hc
              refine r_aload_n C dX11_slide_58 rfl 0 rfl ?_
              refine r_iload_n C dX11_slide_59 rfl 1 rfl ?_
              refine r_csI (rm' := rmX11_slotAt) C mX11_slotAt vX11_slotAt k1100 [aI l1] [aP l0] rfl rfl (Nat.le_of_ble_eq_true rfl) (by decide) ⟨Nat.zero_le _, Nat.zero_le _⟩ 0 0 rfl rfl dX11_slide_60 w (fun x13 h14 w => ?_)
              refine r_iload_n C dX11_slide_63 rfl 2 rfl ?_
              refine r_csI (rm' := rmX11_slotAt) C mX11_slotAt vX11_slotAt k1100 [aI l2] [aI x13, aP l0] rfl rfl (Nat.le_of_ble_eq_true rfl) (by decide) ⟨Nat.zero_le _, Nat.zero_le _⟩ 0 0 rfl rfl dX11_slide_64 w (fun x15 h16 w => ?_)
              refine r_iload_n C dX11_slide_67 rfl 3 rfl ?_
              refine r_iload C dX11_slide_68 4 rfl ?_
              refine r_cvI (rm' := rmX11_lies) C mX11_lies vX11_lies k1217 [aI x13, aI x15, aI l3, aI l4] [] rfl rfl (Nat.le_of_ble_eq_true rfl) (by decide) ⟨Nat.zero_le _, Nat.zero_le _⟩ 0 0 rfl rfl dX11_slide_70 w (fun x17 h18 w => ?_)
              refine r_iconst (v := 2) C dX11_slide_73 rfl ?_
              refine r_icmp_ne C dX11_slide_74 (tgt := 80) rfl (fun hc => ?_) (fun hc => ?_)
              · have w := w.1 hc
                refine r_aload_n C dX11_slide_80 rfl 0 rfl ?_
                refine r_iload_n C dX11_slide_81 rfl 1 rfl ?_
                refine r_csI (rm' := rmX11_slotAt) C mX11_slotAt vX11_slotAt k1100 [aI l1] [aP l0] rfl rfl (Nat.le_of_ble_eq_true rfl) (by decide) ⟨Nat.zero_le _, Nat.zero_le _⟩ 0 0 rfl rfl dX11_slide_82 w (fun x19 h20 w => ?_)
                refine r_iload_n C dX11_slide_85 rfl 2 rfl ?_
                refine r_csI (rm' := rmX11_slotAt) C mX11_slotAt vX11_slotAt k1100 [aI l2] [aI x19, aP l0] rfl rfl (Nat.le_of_ble_eq_true rfl) (by decide) ⟨Nat.zero_le _, Nat.zero_le _⟩ 0 0 rfl rfl dX11_slide_86 w (fun x21 h22 w => ?_)
                refine r_iload_n C dX11_slide_89 rfl 3 rfl ?_
                refine r_iload C dX11_slide_90 4 rfl ?_
                refine r_iload C dX11_slide_92 5 rfl ?_
                refine r_cvI (rm' := rmX11_stops) C mX11_stops vX11_stops k1267 [aI x19, aI x21, aI l3, aI l4, aI l5] [] rfl rfl (Nat.le_of_ble_eq_true rfl) (by decide) ⟨Nat.zero_le _, Nat.zero_le _⟩ 0 0 rfl rfl dX11_slide_94 w (fun x23 h24 w => ?_)
                refine r_if_eq C dX11_slide_97 (tgt := 116) rfl (fun hc => ?_) (fun hc => ?_)
                · have w := w.1 hc
                  refine r_ldc (v := -1000009) C dX11_slide_116 k1170 ?_
                  exact r_iret C D rfl (Nat.zero_le _) (Nat.zero_le _) dX11_slide_118 w
                · have w := w.2 hc
                  refine r_aload_n C dX11_slide_100 rfl 0 rfl ?_
                  refine r_getJ C fcX11 (f := 11) (by decide) rfl k954 dX11_slide_101 (w.mono fun x25 w => ?_)
                  refine r_aload_n C dX11_slide_104 rfl 0 rfl ?_
                  refine r_getJ C fcX11 (f := 12) (by decide) rfl k955 dX11_slide_105 (w.mono fun x26 w => ?_)
                  refine r_iload C dX11_slide_108 6 rfl ?_
                  refine r_csI (rm' := rmX11_part) C mX11_part vX11_part k1257 [aJ x25, aJ x26, aI l6] [] rfl rfl (Nat.le_of_ble_eq_true rfl) (by decide) ⟨Nat.zero_le _, Nat.zero_le _⟩ 0 0 rfl rfl dX11_slide_110 w (fun x27 h28 w => ?_)
                  refine r_goto C dX11_slide_113 (tgt := 118) rfl ?_
                  exact r_iret C D rfl (Nat.zero_le _) (Nat.zero_le _) dX11_slide_118 w
              · have w := w.2 hc
                refine r_ldc (v := -1000002) C dX11_slide_77 k1027 ?_
                exact r_iret C D rfl (Nat.zero_le _) (Nat.zero_le _) dX11_slide_79 w
        · have w := w.2 hc
          refine r_ldc (v := -1000001) C dX11_slide_39 k1039 ?_
          exact r_iret C D rfl (Nat.zero_le _) (Nat.zero_le _) dX11_slide_41 w
theorem eX11_slide {E : EV} {post : Option AV → AH → Prop} {h : AH} {l0 : Option Nat} {l1 : Int32} {l2 : Int32} {l3 : Int32} {l4 : Int32} {l5 : Int32} {l6 : Int32} (w : PX11_slide_0 E post h l0 l1 l2 l3 l4 l5 l6) : sX11_slide E [aP l0, aI l1, aI l2, aI l3, aI l4, aI l5, aI l6] h post := Spec.of RX11 rfl rfl (Nat.le_of_ble_eq_true rfl) fun X C D => bX11_slide_0 C D w
theorem dX11_slideItem_0 : decode cX11_slideItem 0 = .ok (.aload_n 0, 1) := by decide +kernel
theorem dX11_slideItem_1 : decode cX11_slideItem 1 = .ok (.iload_n 1, 1) := by decide +kernel
theorem dX11_slideItem_2 : decode cX11_slideItem 2 = .ok (.invokevirtual 298, 3) := by decide +kernel
theorem dX11_slideItem_5 : decode cX11_slideItem 5 = .ok (.ifCond .eq 13, 3) := by decide +kernel
theorem dX11_slideItem_8 : decode cX11_slideItem 8 = .ok (.iload_n 2, 1) := by decide +kernel
theorem dX11_slideItem_9 : decode cX11_slideItem 9 = .ok (.iconst 0, 1) := by decide +kernel
theorem dX11_slideItem_10 : decode cX11_slideItem 10 = .ok (.bipush 7, 2) := by decide +kernel
theorem dX11_slideItem_12 : decode cX11_slideItem 12 = .ok (.invokestatic 46, 3) := by decide +kernel
theorem dX11_slideItem_15 : decode cX11_slideItem 15 = .ok (.ifCond .ne 6, 3) := by decide +kernel
theorem dX11_slideItem_18 : decode cX11_slideItem 18 = .ok (.ldc 145, 2) := by decide +kernel
theorem dX11_slideItem_20 : decode cX11_slideItem 20 = .ok (.ireturn, 1) := by decide +kernel
theorem dX11_slideItem_21 : decode cX11_slideItem 21 = .ok (.aload_n 0, 1) := by decide +kernel
theorem dX11_slideItem_22 : decode cX11_slideItem 22 = .ok (.iload_n 1, 1) := by decide +kernel
theorem dX11_slideItem_23 : decode cX11_slideItem 23 = .ok (.invokestatic 257, 3) := by decide +kernel
theorem dX11_slideItem_26 : decode cX11_slideItem 26 = .ok (.aload_n 0, 1) := by decide +kernel
theorem dX11_slideItem_27 : decode cX11_slideItem 27 = .ok (.iload_n 1, 1) := by decide +kernel
theorem dX11_slideItem_28 : decode cX11_slideItem 28 = .ok (.invokevirtual 260, 3) := by decide +kernel
theorem dX11_slideItem_31 : decode cX11_slideItem 31 = .ok (.iload_n 2, 1) := by decide +kernel
theorem dX11_slideItem_32 : decode cX11_slideItem 32 = .ok (.invokestatic 73, 3) := by decide +kernel
theorem dX11_slideItem_35 : decode cX11_slideItem 35 = .ok (.iadd, 1) := by decide +kernel
theorem dX11_slideItem_36 : decode cX11_slideItem 36 = .ok (.aload_n 0, 1) := by decide +kernel
theorem dX11_slideItem_37 : decode cX11_slideItem 37 = .ok (.iload_n 1, 1) := by decide +kernel
theorem dX11_slideItem_38 : decode cX11_slideItem 38 = .ok (.invokevirtual 263, 3) := by decide +kernel
theorem dX11_slideItem_41 : decode cX11_slideItem 41 = .ok (.iload_n 2, 1) := by decide +kernel
theorem dX11_slideItem_42 : decode cX11_slideItem 42 = .ok (.invokestatic 79, 3) := by decide +kernel
theorem dX11_slideItem_45 : decode cX11_slideItem 45 = .ok (.iadd, 1) := by decide +kernel
theorem dX11_slideItem_46 : decode cX11_slideItem 46 = .ok (.iload_n 1, 1) := by decide +kernel
theorem dX11_slideItem_47 : decode cX11_slideItem 47 = .ok (.invokevirtual 266, 3) := by decide +kernel
theorem dX11_slideItem_50 : decode cX11_slideItem 50 = .ok (.ifCond .ne 6, 3) := by decide +kernel
theorem dX11_slideItem_53 : decode cX11_slideItem 53 = .ok (.ldc 226, 2) := by decide +kernel
theorem dX11_slideItem_55 : decode cX11_slideItem 55 = .ok (.ireturn, 1) := by decide +kernel
theorem dX11_slideItem_56 : decode cX11_slideItem 56 = .ok (.aload_n 0, 1) := by decide +kernel
theorem dX11_slideItem_57 : decode cX11_slideItem 57 = .ok (.invokevirtual 188, 3) := by decide +kernel
theorem dX11_slideItem_60 : decode cX11_slideItem 60 = .ok (.aload_n 0, 1) := by decide +kernel
theorem dX11_slideItem_61 : decode cX11_slideItem 61 = .ok (.iload_n 1, 1) := by decide +kernel
theorem dX11_slideItem_62 : decode cX11_slideItem 62 = .ok (.iload_n 2, 1) := by decide +kernel
theorem dX11_slideItem_63 : decode cX11_slideItem 63 = .ok (.invokevirtual 301, 3) := by decide +kernel
theorem dX11_slideItem_66 : decode cX11_slideItem 66 = .ok (.ireturn, 1) := by decide +kernel
abbrev rmX11_slideItem : Room := { frames := 7, cells := 0, slots := 0, locals := 280 }
abbrev sX11_slideItem (E : EV) : List AV → AH → (Option AV → AH → Prop) → Prop := Spec E yX11_slideItem cX11_slideItem 3 (some .int) rmX11_slideItem
theorem mX11_slideItem : Mt yX11_slideItem cX11_slideItem 3 (some .int) 2 := ⟨k1348, k12, by decide +kernel⟩
theorem vX11_slideItem : MtV yX11_slideItem 11 := ⟨k1346, k1347, by decide, (RX11, TX11, 26), rfl, rfl⟩
def PX11_slideItem_0 (E : EV) (post : Option AV → AH → Prop) (h : AH) (l0 : Option Nat) (l1 : Int32) (l2 : Int32) : Prop :=
  CV (sX11_isItem E) l0 11 [aI l1] h (kI fun x1 h2 => (x1 = 0 → post (some (aI (-1000001 : Int32))) h2) ∧ (¬ x1 = 0 → CS (sX11_in E) [aI l2, aI (0 : Int32), aI (7 : Int32)] h2 (kI fun x3 h4 => (¬ x3 = 0 → CS (sX11_itemShape E) [aI l1] h4 (kI fun x5 h6 => CV (sX11_itemX E) l0 11 [aI l1] h6 (kI fun x7 h8 => CS (sX11_dirX E) [aI l2] h8 (kI fun x9 h10 => CV (sX11_itemY E) l0 11 [aI l1] h10 (kI fun x11 h12 => CS (sX11_dirY E) [aI l2] h12 (kI fun x13 h14 => CV (sX11_fits E) l0 11 [aI x5, aI (x7 + x9), aI (x11 + x13), aI l1] h14 (kI fun x15 h16 => (¬ x15 = 0 → CV (sX11_note E) l0 11 [] h16 (kV fun h18 => CV (sX11_slides E) l0 11 [aI l1, aI l2] h18 (kI fun x19 h20 => post (some (aI x19)) h20))) ∧ (x15 = 0 → post (some (aI (-1000009 : Int32))) h16)))))))) ∧ (x3 = 0 → post (some (aI (-1000001 : Int32))) h4))))
theorem bX11_slideItem_0 {E : EV} {X : AX} {post : Option AV → AH → Prop} (C : Cb E X cX11_slideItem RX11 3 rmX11_slideItem) (D : Cr E X (some .int) rmX11_slideItem "slideItem" post) {h : AH} {l0 : Option Nat} {l1 : Int32} {l2 : Int32} (w : PX11_slideItem_0 E post h l0 l1 l2) : Go E X 3 0 0 0 [(0, aP l0), (1, aI l1), (2, aI l2)] [] h := by
  unfold PX11_slideItem_0 at w
  refine r_aload_n C dX11_slideItem_0 rfl 0 rfl ?_
  refine r_iload_n C dX11_slideItem_1 rfl 1 rfl ?_
  refine r_cvI (rm' := rmX11_isItem) C mX11_isItem vX11_isItem k1349 [aI l1] [] rfl rfl (Nat.le_of_ble_eq_true rfl) (by decide) ⟨Nat.zero_le _, Nat.zero_le _⟩ 0 0 rfl rfl dX11_slideItem_2 w (fun x1 h2 w => ?_)
  refine r_if_eq C dX11_slideItem_5 (tgt := 18) rfl (fun hc => ?_) (fun hc => ?_)
  · have w := w.1 hc
    refine r_ldc (v := -1000001) C dX11_slideItem_18 k1039 ?_
    exact r_iret C D rfl (Nat.zero_le _) (Nat.zero_le _) dX11_slideItem_20 w
  · have w := w.2 hc
    refine r_iload_n C dX11_slideItem_8 rfl 2 rfl ?_
    refine r_iconst (v := 0) C dX11_slideItem_9 rfl ?_
    refine r_bipush (v := 7) C dX11_slideItem_10 rfl ?_
    refine r_csI (rm' := rmX11_in) C mX11_in vX11_in k1036 [aI l2, aI (0 : Int32), aI (7 : Int32)] [] rfl rfl (Nat.le_of_ble_eq_true rfl) (by decide) ⟨Nat.zero_le _, Nat.zero_le _⟩ 0 0 rfl rfl dX11_slideItem_12 w (fun x3 h4 w => ?_)
    refine r_if_ne C dX11_slideItem_15 (tgt := 21) rfl (fun hc => ?_) (fun hc => ?_)
    · have w := w.1 hc
      refine r_aload_n C dX11_slideItem_21 rfl 0 rfl ?_
      refine r_iload_n C dX11_slideItem_22 rfl 1 rfl ?_
      refine r_csI (rm' := rmX11_itemShape) C mX11_itemShape vX11_itemShape k1281 [aI l1] [aP l0] rfl rfl (Nat.le_of_ble_eq_true rfl) (by decide) ⟨Nat.zero_le _, Nat.zero_le _⟩ 0 0 rfl rfl dX11_slideItem_23 w (fun x5 h6 w => ?_)
      refine r_aload_n C dX11_slideItem_26 rfl 0 rfl ?_
      refine r_iload_n C dX11_slideItem_27 rfl 1 rfl ?_
      refine r_cvI (rm' := rmX11_itemX) C mX11_itemX vX11_itemX k1284 [aI l1] [aI x5, aP l0] rfl rfl (Nat.le_of_ble_eq_true rfl) (by decide) ⟨Nat.zero_le _, Nat.zero_le _⟩ 0 0 rfl rfl dX11_slideItem_28 w (fun x7 h8 w => ?_)
      refine r_iload_n C dX11_slideItem_31 rfl 2 rfl ?_
      refine r_csI (rm' := rmX11_dirX) C mX11_dirX vX11_dirX k1175 [aI l2] [aI x7, aI x5, aP l0] rfl rfl (Nat.le_of_ble_eq_true rfl) (by decide) ⟨Nat.zero_le _, Nat.zero_le _⟩ 0 0 rfl rfl dX11_slideItem_32 w (fun x9 h10 w => ?_)
      refine r_iadd C dX11_slideItem_35 ?_
      refine r_aload_n C dX11_slideItem_36 rfl 0 rfl ?_
      refine r_iload_n C dX11_slideItem_37 rfl 1 rfl ?_
      refine r_cvI (rm' := rmX11_itemY) C mX11_itemY vX11_itemY k1288 [aI l1] [aI (x7 + x9), aI x5, aP l0] rfl rfl (Nat.le_of_ble_eq_true rfl) (by decide) ⟨Nat.zero_le _, Nat.zero_le _⟩ 0 0 rfl rfl dX11_slideItem_38 w (fun x11 h12 w => ?_)
      refine r_iload_n C dX11_slideItem_41 rfl 2 rfl ?_
      refine r_csI (rm' := rmX11_dirY) C mX11_dirY vX11_dirY k1178 [aI l2] [aI x11, aI (x7 + x9), aI x5, aP l0] rfl rfl (Nat.le_of_ble_eq_true rfl) (by decide) ⟨Nat.zero_le _, Nat.zero_le _⟩ 0 0 rfl rfl dX11_slideItem_42 w (fun x13 h14 w => ?_)
      refine r_iadd C dX11_slideItem_45 ?_
      refine r_iload_n C dX11_slideItem_46 rfl 1 rfl ?_
      refine r_cvI (rm' := rmX11_fits) C mX11_fits vX11_fits k1300 [aI x5, aI (x7 + x9), aI (x11 + x13), aI l1] [] rfl rfl (Nat.le_of_ble_eq_true rfl) (by decide) ⟨Nat.zero_le _, Nat.zero_le _⟩ 0 0 rfl rfl dX11_slideItem_47 w (fun x15 h16 w => ?_)
      refine r_if_ne C dX11_slideItem_50 (tgt := 56) rfl (fun hc => ?_) (fun hc => ?_)
      · have w := w.1 hc
        refine r_aload_n C dX11_slideItem_56 rfl 0 rfl ?_
        refine r_cvV (rm' := rmX11_note) C mX11_note vX11_note k1096 [] [] rfl rfl (Nat.le_of_ble_eq_true rfl) (by decide) ⟨Nat.zero_le _, Nat.zero_le _⟩ 0 0 rfl rfl dX11_slideItem_57 w (fun h18 w => ?_)
        refine r_aload_n C dX11_slideItem_60 rfl 0 rfl ?_
        refine r_iload_n C dX11_slideItem_61 rfl 1 rfl ?_
        refine r_iload_n C dX11_slideItem_62 rfl 2 rfl ?_
        refine r_cvI (rm' := rmX11_slides) C mX11_slides vX11_slides k1353 [aI l1, aI l2] [] rfl rfl (Nat.le_of_ble_eq_true rfl) (by decide) ⟨Nat.zero_le _, Nat.zero_le _⟩ 0 0 rfl rfl dX11_slideItem_63 w (fun x19 h20 w => ?_)
        exact r_iret C D rfl (Nat.zero_le _) (Nat.zero_le _) dX11_slideItem_66 w
      · have w := w.2 hc
        refine r_ldc (v := -1000009) C dX11_slideItem_53 k1170 ?_
        exact r_iret C D rfl (Nat.zero_le _) (Nat.zero_le _) dX11_slideItem_55 w
    · have w := w.2 hc
      refine r_ldc (v := -1000001) C dX11_slideItem_18 k1039 ?_
      exact r_iret C D rfl (Nat.zero_le _) (Nat.zero_le _) dX11_slideItem_20 w
theorem eX11_slideItem {E : EV} {post : Option AV → AH → Prop} {h : AH} {l0 : Option Nat} {l1 : Int32} {l2 : Int32} (w : PX11_slideItem_0 E post h l0 l1 l2) : sX11_slideItem E [aP l0, aI l1, aI l2] h post := Spec.of RX11 rfl rfl (Nat.le_of_ble_eq_true rfl) fun X C D => bX11_slideItem_0 C D w
theorem dX11_squaredGap_0 : decode cX11_squaredGap 0 = .ok (.aload_n 0, 1) := by decide +kernel
theorem dX11_squaredGap_1 : decode cX11_squaredGap 1 = .ok (.iload_n 1, 1) := by decide +kernel
theorem dX11_squaredGap_2 : decode cX11_squaredGap 2 = .ok (.iload_n 2, 1) := by decide +kernel
theorem dX11_squaredGap_3 : decode cX11_squaredGap 3 = .ok (.invokevirtual 233, 3) := by decide +kernel
theorem dX11_squaredGap_6 : decode cX11_squaredGap 6 = .ok (.ifCond .eq 22, 3) := by decide +kernel
theorem dX11_squaredGap_9 : decode cX11_squaredGap 9 = .ok (.iload_n 3, 1) := by decide +kernel
theorem dX11_squaredGap_10 : decode cX11_squaredGap 10 = .ok (.iload 4, 2) := by decide +kernel
theorem dX11_squaredGap_12 : decode cX11_squaredGap 12 = .ok (.invokestatic 236, 3) := by decide +kernel
theorem dX11_squaredGap_15 : decode cX11_squaredGap 15 = .ok (.ifCond .eq 13, 3) := by decide +kernel
theorem dX11_squaredGap_18 : decode cX11_squaredGap 18 = .ok (.iload 5, 2) := by decide +kernel
theorem dX11_squaredGap_20 : decode cX11_squaredGap 20 = .ok (.iconst 0, 1) := by decide +kernel
theorem dX11_squaredGap_21 : decode cX11_squaredGap 21 = .ok (.iconst 1, 1) := by decide +kernel
theorem dX11_squaredGap_22 : decode cX11_squaredGap 22 = .ok (.invokestatic 46, 3) := by decide +kernel
theorem dX11_squaredGap_25 : decode cX11_squaredGap 25 = .ok (.ifCond .ne 6, 3) := by decide +kernel
theorem dX11_squaredGap_28 : decode cX11_squaredGap 28 = .ok (.ldc 145, 2) := by decide +kernel
theorem dX11_squaredGap_30 : decode cX11_squaredGap 30 = .ok (.ireturn, 1) := by decide +kernel
theorem dX11_squaredGap_31 : decode cX11_squaredGap 31 = .ok (.aload_n 0, 1) := by decide +kernel
theorem dX11_squaredGap_32 : decode cX11_squaredGap 32 = .ok (.iload_n 1, 1) := by decide +kernel
theorem dX11_squaredGap_33 : decode cX11_squaredGap 33 = .ok (.invokevirtual 195, 3) := by decide +kernel
theorem dX11_squaredGap_36 : decode cX11_squaredGap 36 = .ok (.ifCond .ne 11, 3) := by decide +kernel
theorem dX11_squaredGap_39 : decode cX11_squaredGap 39 = .ok (.aload_n 0, 1) := by decide +kernel
theorem dX11_squaredGap_40 : decode cX11_squaredGap 40 = .ok (.iload_n 2, 1) := by decide +kernel
theorem dX11_squaredGap_41 : decode cX11_squaredGap 41 = .ok (.invokevirtual 195, 3) := by decide +kernel
theorem dX11_squaredGap_44 : decode cX11_squaredGap 44 = .ok (.ifCond .eq 6, 3) := by decide +kernel
theorem dX11_squaredGap_47 : decode cX11_squaredGap 47 = .ok (.ldc 42, 2) := by decide +kernel
theorem dX11_squaredGap_49 : decode cX11_squaredGap 49 = .ok (.ireturn, 1) := by decide +kernel
theorem dX11_squaredGap_50 : decode cX11_squaredGap 50 = .ok (.aload_n 0, 1) := by decide +kernel
theorem dX11_squaredGap_51 : decode cX11_squaredGap 51 = .ok (.iload_n 1, 1) := by decide +kernel
theorem dX11_squaredGap_52 : decode cX11_squaredGap 52 = .ok (.invokestatic 50, 3) := by decide +kernel
theorem dX11_squaredGap_55 : decode cX11_squaredGap 55 = .ok (.iload_n 2, 1) := by decide +kernel
theorem dX11_squaredGap_56 : decode cX11_squaredGap 56 = .ok (.invokestatic 50, 3) := by decide +kernel
theorem dX11_squaredGap_59 : decode cX11_squaredGap 59 = .ok (.iload_n 3, 1) := by decide +kernel
theorem dX11_squaredGap_60 : decode cX11_squaredGap 60 = .ok (.iload 4, 2) := by decide +kernel
theorem dX11_squaredGap_62 : decode cX11_squaredGap 62 = .ok (.invokevirtual 242, 3) := by decide +kernel
theorem dX11_squaredGap_65 : decode cX11_squaredGap 65 = .ok (.aload_n 0, 1) := by decide +kernel
theorem dX11_squaredGap_66 : decode cX11_squaredGap 66 = .ok (.getfield 111, 3) := by decide +kernel
theorem dX11_squaredGap_69 : decode cX11_squaredGap 69 = .ok (.aload_n 0, 1) := by decide +kernel
theorem dX11_squaredGap_70 : decode cX11_squaredGap 70 = .ok (.getfield 107, 3) := by decide +kernel
theorem dX11_squaredGap_73 : decode cX11_squaredGap 73 = .ok (.iload 5, 2) := by decide +kernel
theorem dX11_squaredGap_75 : decode cX11_squaredGap 75 = .ok (.invokestatic 246, 3) := by decide +kernel
theorem dX11_squaredGap_78 : decode cX11_squaredGap 78 = .ok (.ireturn, 1) := by decide +kernel
abbrev rmX11_squaredGap : Room := { frames := 6, cells := 0, slots := 0, locals := 240 }
abbrev sX11_squaredGap (E : EV) : List AV → AH → (Option AV → AH → Prop) → Prop := Spec E yX11_squaredGap cX11_squaredGap 6 (some .int) rmX11_squaredGap
theorem mX11_squaredGap : Mt yX11_squaredGap cX11_squaredGap 6 (some .int) 5 := ⟨k1244, k12, by decide +kernel⟩
theorem vX11_squaredGap : MtV yX11_squaredGap 11 := ⟨k1242, k1243, by decide, (RX11, TX11, 26), rfl, rfl⟩
def PX11_squaredGap_0 (E : EV) (post : Option AV → AH → Prop) (h : AH) (l0 : Option Nat) (l1 : Int32) (l2 : Int32) (l3 : Int32) (l4 : Int32) (l5 : Int32) : Prop :=
  CV (sX11_areSlots E) l0 11 [aI l1, aI l2] h (kI fun x1 h2 => (x1 = 0 → post (some (aI (-1000001 : Int32))) h2) ∧ (¬ x1 = 0 → CS (sX11_isPlace E) [aI l3, aI l4] h2 (kI fun x3 h4 => (x3 = 0 → post (some (aI (-1000001 : Int32))) h4) ∧ (¬ x3 = 0 → CS (sX11_in E) [aI l5, aI (0 : Int32), aI (1 : Int32)] h4 (kI fun x5 h6 => (¬ x5 = 0 → CV (sX11_isEmpty E) l0 11 [aI l1] h6 (kI fun x7 h8 => (¬ x7 = 0 → post (some (aI (-1000002 : Int32))) h8) ∧ (x7 = 0 → CV (sX11_isEmpty E) l0 11 [aI l2] h8 (kI fun x9 h10 => (x9 = 0 → CS (sX11_slotAt E) [aI l1] h10 (kI fun x11 h12 => CS (sX11_slotAt E) [aI l2] h12 (kI fun x13 h14 => CV (sX11_laysGap E) l0 11 [aI x11, aI x13, aI l3, aI l4] h14 (kV fun h16 => rdJ h16 l0 11 7 fun x17 => rdJ h16 l0 11 8 fun x18 => CS (sX11_part E) [aJ x17, aJ x18, aI l5] h16 (kI fun x19 h20 => post (some (aI x19)) h20))))) ∧ (¬ x9 = 0 → post (some (aI (-1000002 : Int32))) h10))))) ∧ (x5 = 0 → post (some (aI (-1000001 : Int32))) h6))))))
theorem bX11_squaredGap_0 {E : EV} {X : AX} {post : Option AV → AH → Prop} (C : Cb E X cX11_squaredGap RX11 6 rmX11_squaredGap) (D : Cr E X (some .int) rmX11_squaredGap "squaredGap" post) {h : AH} {l0 : Option Nat} {l1 : Int32} {l2 : Int32} {l3 : Int32} {l4 : Int32} {l5 : Int32} (w : PX11_squaredGap_0 E post h l0 l1 l2 l3 l4 l5) : Go E X 6 0 0 0 [(0, aP l0), (1, aI l1), (2, aI l2), (3, aI l3), (4, aI l4), (5, aI l5)] [] h := by
  unfold PX11_squaredGap_0 at w
  refine r_aload_n C dX11_squaredGap_0 rfl 0 rfl ?_
  refine r_iload_n C dX11_squaredGap_1 rfl 1 rfl ?_
  refine r_iload_n C dX11_squaredGap_2 rfl 2 rfl ?_
  refine r_cvI (rm' := rmX11_areSlots) C mX11_areSlots vX11_areSlots k1210 [aI l1, aI l2] [] rfl rfl (Nat.le_of_ble_eq_true rfl) (by decide) ⟨Nat.zero_le _, Nat.zero_le _⟩ 0 0 rfl rfl dX11_squaredGap_3 w (fun x1 h2 w => ?_)
  refine r_if_eq C dX11_squaredGap_6 (tgt := 28) rfl (fun hc => ?_) (fun hc => ?_)
  · have w := w.1 hc
    refine r_ldc (v := -1000001) C dX11_squaredGap_28 k1039 ?_
    exact r_iret C D rfl (Nat.zero_le _) (Nat.zero_le _) dX11_squaredGap_30 w
  · have w := w.2 hc
    refine r_iload_n C dX11_squaredGap_9 rfl 3 rfl ?_
    refine r_iload C dX11_squaredGap_10 4 rfl ?_
    refine r_csI (rm' := rmX11_isPlace) C mX11_isPlace vX11_isPlace k1214 [aI l3, aI l4] [] rfl rfl (Nat.le_of_ble_eq_true rfl) (by decide) ⟨Nat.zero_le _, Nat.zero_le _⟩ 0 0 rfl rfl dX11_squaredGap_12 w (fun x3 h4 w => ?_)
    refine r_if_eq C dX11_squaredGap_15 (tgt := 28) rfl (fun hc => ?_) (fun hc => ?_)
    · have w := w.1 hc
      refine r_ldc (v := -1000001) C dX11_squaredGap_28 k1039 ?_
      exact r_iret C D rfl (Nat.zero_le _) (Nat.zero_le _) dX11_squaredGap_30 w
    · have w := w.2 hc
      refine r_iload C dX11_squaredGap_18 5 rfl ?_
      refine r_iconst (v := 0) C dX11_squaredGap_20 rfl ?_
      refine r_iconst (v := 1) C dX11_squaredGap_21 rfl ?_
      refine r_csI (rm' := rmX11_in) C mX11_in vX11_in k1036 [aI l5, aI (0 : Int32), aI (1 : Int32)] [] rfl rfl (Nat.le_of_ble_eq_true rfl) (by decide) ⟨Nat.zero_le _, Nat.zero_le _⟩ 0 0 rfl rfl dX11_squaredGap_22 w (fun x5 h6 w => ?_)
      refine r_if_ne C dX11_squaredGap_25 (tgt := 31) rfl (fun hc => ?_) (fun hc => ?_)
      · have w := w.1 hc
        refine r_aload_n C dX11_squaredGap_31 rfl 0 rfl ?_
        refine r_iload_n C dX11_squaredGap_32 rfl 1 rfl ?_
        refine r_cvI (rm' := rmX11_isEmpty) C mX11_isEmpty vX11_isEmpty k1111 [aI l1] [] rfl rfl (Nat.le_of_ble_eq_true rfl) (by decide) ⟨Nat.zero_le _, Nat.zero_le _⟩ 0 0 rfl rfl dX11_squaredGap_33 w (fun x7 h8 w => ?_)
        refine r_if_ne C dX11_squaredGap_36 (tgt := 47) rfl (fun hc => ?_) (fun hc => ?_)
        · have w := w.1 hc
          refine r_ldc (v := -1000002) C dX11_squaredGap_47 k1027 ?_
          exact r_iret C D rfl (Nat.zero_le _) (Nat.zero_le _) dX11_squaredGap_49 w
        · have w := w.2 hc
          refine r_aload_n C dX11_squaredGap_39 rfl 0 rfl ?_
          refine r_iload_n C dX11_squaredGap_40 rfl 2 rfl ?_
          refine r_cvI (rm' := rmX11_isEmpty) C mX11_isEmpty vX11_isEmpty k1111 [aI l2] [] rfl rfl (Nat.le_of_ble_eq_true rfl) (by decide) ⟨Nat.zero_le _, Nat.zero_le _⟩ 0 0 rfl rfl dX11_squaredGap_41 w (fun x9 h10 w => ?_)
          refine r_if_eq C dX11_squaredGap_44 (tgt := 50) rfl (fun hc => ?_) (fun hc => ?_)
          · have w := w.1 hc
            refine r_aload_n C dX11_squaredGap_50 rfl 0 rfl ?_
            refine r_iload_n C dX11_squaredGap_51 rfl 1 rfl ?_
            refine r_csI (rm' := rmX11_slotAt) C mX11_slotAt vX11_slotAt k1100 [aI l1] [aP l0] rfl rfl (Nat.le_of_ble_eq_true rfl) (by decide) ⟨Nat.zero_le _, Nat.zero_le _⟩ 0 0 rfl rfl dX11_squaredGap_52 w (fun x11 h12 w => ?_)
            refine r_iload_n C dX11_squaredGap_55 rfl 2 rfl ?_
            refine r_csI (rm' := rmX11_slotAt) C mX11_slotAt vX11_slotAt k1100 [aI l2] [aI x11, aP l0] rfl rfl (Nat.le_of_ble_eq_true rfl) (by decide) ⟨Nat.zero_le _, Nat.zero_le _⟩ 0 0 rfl rfl dX11_squaredGap_56 w (fun x13 h14 w => ?_)
            refine r_iload_n C dX11_squaredGap_59 rfl 3 rfl ?_
            refine r_iload C dX11_squaredGap_60 4 rfl ?_
            refine r_cvV (rm' := rmX11_laysGap) C mX11_laysGap vX11_laysGap k1245 [aI x11, aI x13, aI l3, aI l4] [] rfl rfl (Nat.le_of_ble_eq_true rfl) (by decide) ⟨Nat.zero_le _, Nat.zero_le _⟩ 0 0 rfl rfl dX11_squaredGap_62 w (fun h16 w => ?_)
            refine r_aload_n C dX11_squaredGap_65 rfl 0 rfl ?_
            refine r_getJ C fcX11 (f := 7) (by decide) rfl k950 dX11_squaredGap_66 (w.mono fun x17 w => ?_)
            refine r_aload_n C dX11_squaredGap_69 rfl 0 rfl ?_
            refine r_getJ C fcX11 (f := 8) (by decide) rfl k951 dX11_squaredGap_70 (w.mono fun x18 w => ?_)
            refine r_iload C dX11_squaredGap_73 5 rfl ?_
            refine r_csI (rm' := rmX11_part) C mX11_part vX11_part k1257 [aJ x17, aJ x18, aI l5] [] rfl rfl (Nat.le_of_ble_eq_true rfl) (by decide) ⟨Nat.zero_le _, Nat.zero_le _⟩ 0 0 rfl rfl dX11_squaredGap_75 w (fun x19 h20 w => ?_)
            exact r_iret C D rfl (Nat.zero_le _) (Nat.zero_le _) dX11_squaredGap_78 w
          · have w := w.2 hc
            refine r_ldc (v := -1000002) C dX11_squaredGap_47 k1027 ?_
            exact r_iret C D rfl (Nat.zero_le _) (Nat.zero_le _) dX11_squaredGap_49 w
      · have w := w.2 hc
        refine r_ldc (v := -1000001) C dX11_squaredGap_28 k1039 ?_
        exact r_iret C D rfl (Nat.zero_le _) (Nat.zero_le _) dX11_squaredGap_30 w
theorem eX11_squaredGap {E : EV} {post : Option AV → AH → Prop} {h : AH} {l0 : Option Nat} {l1 : Int32} {l2 : Int32} {l3 : Int32} {l4 : Int32} {l5 : Int32} (w : PX11_squaredGap_0 E post h l0 l1 l2 l3 l4 l5) : sX11_squaredGap E [aP l0, aI l1, aI l2, aI l3, aI l4, aI l5] h post := Spec.of RX11 rfl rfl (Nat.le_of_ble_eq_true rfl) fun X C D => bX11_squaredGap_0 C D w
theorem dX11_sumDoubleArea_0 : decode cX11_sumDoubleArea 0 = .ok (.aload_n 0, 1) := by decide +kernel
theorem dX11_sumDoubleArea_1 : decode cX11_sumDoubleArea 1 = .ok (.iload_n 1, 1) := by decide +kernel
theorem dX11_sumDoubleArea_2 : decode cX11_sumDoubleArea 2 = .ok (.iload_n 2, 1) := by decide +kernel
theorem dX11_sumDoubleArea_3 : decode cX11_sumDoubleArea 3 = .ok (.invokevirtual 201, 3) := by decide +kernel
theorem dX11_sumDoubleArea_6 : decode cX11_sumDoubleArea 6 = .ok (.ifCond .eq 13, 3) := by decide +kernel
theorem dX11_sumDoubleArea_9 : decode cX11_sumDoubleArea 9 = .ok (.aload_n 0, 1) := by decide +kernel
theorem dX11_sumDoubleArea_10 : decode cX11_sumDoubleArea 10 = .ok (.iload_n 3, 1) := by decide +kernel
theorem dX11_sumDoubleArea_11 : decode cX11_sumDoubleArea 11 = .ok (.iload 4, 2) := by decide +kernel
theorem dX11_sumDoubleArea_13 : decode cX11_sumDoubleArea 13 = .ok (.invokevirtual 201, 3) := by decide +kernel
theorem dX11_sumDoubleArea_16 : decode cX11_sumDoubleArea 16 = .ok (.ifCond .ne 6, 3) := by decide +kernel
theorem dX11_sumDoubleArea_19 : decode cX11_sumDoubleArea 19 = .ok (.ldc 145, 2) := by decide +kernel
theorem dX11_sumDoubleArea_21 : decode cX11_sumDoubleArea 21 = .ok (.ireturn, 1) := by decide +kernel
theorem dX11_sumDoubleArea_22 : decode cX11_sumDoubleArea 22 = .ok (.aload_n 0, 1) := by decide +kernel
theorem dX11_sumDoubleArea_23 : decode cX11_sumDoubleArea 23 = .ok (.iconst 1, 1) := by decide +kernel
theorem dX11_sumDoubleArea_24 : decode cX11_sumDoubleArea 24 = .ok (.iload_n 1, 1) := by decide +kernel
theorem dX11_sumDoubleArea_25 : decode cX11_sumDoubleArea 25 = .ok (.invokestatic 50, 3) := by decide +kernel
theorem dX11_sumDoubleArea_28 : decode cX11_sumDoubleArea 28 = .ok (.iload_n 2, 1) := by decide +kernel
theorem dX11_sumDoubleArea_29 : decode cX11_sumDoubleArea 29 = .ok (.iload_n 3, 1) := by decide +kernel
theorem dX11_sumDoubleArea_30 : decode cX11_sumDoubleArea 30 = .ok (.invokestatic 50, 3) := by decide +kernel
theorem dX11_sumDoubleArea_33 : decode cX11_sumDoubleArea 33 = .ok (.iload 4, 2) := by decide +kernel
theorem dX11_sumDoubleArea_35 : decode cX11_sumDoubleArea 35 = .ok (.invokevirtual 230, 3) := by decide +kernel
theorem dX11_sumDoubleArea_38 : decode cX11_sumDoubleArea 38 = .ok (.iconst 0, 1) := by decide +kernel
theorem dX11_sumDoubleArea_39 : decode cX11_sumDoubleArea 39 = .ok (.istore 5, 2) := by decide +kernel
theorem dX11_sumDoubleArea_41 : decode cX11_sumDoubleArea 41 = .ok (.iconst 0, 1) := by decide +kernel
theorem dX11_sumDoubleArea_42 : decode cX11_sumDoubleArea 42 = .ok (.istore 6, 2) := by decide +kernel
theorem dX11_sumDoubleArea_44 : decode cX11_sumDoubleArea 44 = .ok (.iload 6, 2) := by decide +kernel
theorem dX11_sumDoubleArea_46 : decode cX11_sumDoubleArea 46 = .ok (.aload_n 0, 1) := by decide +kernel
theorem dX11_sumDoubleArea_47 : decode cX11_sumDoubleArea 47 = .ok (.getfield 211, 3) := by decide +kernel
theorem dX11_sumDoubleArea_50 : decode cX11_sumDoubleArea 50 = .ok (.if_icmp .ge 56, 3) := by decide +kernel
theorem dX11_sumDoubleArea_53 : decode cX11_sumDoubleArea 53 = .ok (.iload 6, 2) := by decide +kernel
theorem dX11_sumDoubleArea_55 : decode cX11_sumDoubleArea 55 = .ok (.iconst 1, 1) := by decide +kernel
theorem dX11_sumDoubleArea_56 : decode cX11_sumDoubleArea 56 = .ok (.iadd, 1) := by decide +kernel
theorem dX11_sumDoubleArea_57 : decode cX11_sumDoubleArea 57 = .ok (.aload_n 0, 1) := by decide +kernel
theorem dX11_sumDoubleArea_58 : decode cX11_sumDoubleArea 58 = .ok (.getfield 211, 3) := by decide +kernel
theorem dX11_sumDoubleArea_61 : decode cX11_sumDoubleArea 61 = .ok (.irem, 1) := by decide +kernel
theorem dX11_sumDoubleArea_62 : decode cX11_sumDoubleArea 62 = .ok (.istore 7, 2) := by decide +kernel
theorem dX11_sumDoubleArea_64 : decode cX11_sumDoubleArea 64 = .ok (.iload 5, 2) := by decide +kernel
theorem dX11_sumDoubleArea_66 : decode cX11_sumDoubleArea 66 = .ok (.aload_n 0, 1) := by decide +kernel
theorem dX11_sumDoubleArea_67 : decode cX11_sumDoubleArea 67 = .ok (.getfield 26, 3) := by decide +kernel
theorem dX11_sumDoubleArea_70 : decode cX11_sumDoubleArea 70 = .ok (.iload 6, 2) := by decide +kernel
theorem dX11_sumDoubleArea_72 : decode cX11_sumDoubleArea 72 = .ok (.iaload, 1) := by decide +kernel
theorem dX11_sumDoubleArea_73 : decode cX11_sumDoubleArea 73 = .ok (.aload_n 0, 1) := by decide +kernel
theorem dX11_sumDoubleArea_74 : decode cX11_sumDoubleArea 74 = .ok (.getfield 29, 3) := by decide +kernel
theorem dX11_sumDoubleArea_77 : decode cX11_sumDoubleArea 77 = .ok (.iload 7, 2) := by decide +kernel
theorem dX11_sumDoubleArea_79 : decode cX11_sumDoubleArea 79 = .ok (.iaload, 1) := by decide +kernel
theorem dX11_sumDoubleArea_80 : decode cX11_sumDoubleArea 80 = .ok (.imul, 1) := by decide +kernel
theorem dX11_sumDoubleArea_81 : decode cX11_sumDoubleArea 81 = .ok (.aload_n 0, 1) := by decide +kernel
theorem dX11_sumDoubleArea_82 : decode cX11_sumDoubleArea 82 = .ok (.getfield 26, 3) := by decide +kernel
theorem dX11_sumDoubleArea_85 : decode cX11_sumDoubleArea 85 = .ok (.iload 7, 2) := by decide +kernel
theorem dX11_sumDoubleArea_87 : decode cX11_sumDoubleArea 87 = .ok (.iaload, 1) := by decide +kernel
theorem dX11_sumDoubleArea_88 : decode cX11_sumDoubleArea 88 = .ok (.aload_n 0, 1) := by decide +kernel
theorem dX11_sumDoubleArea_89 : decode cX11_sumDoubleArea 89 = .ok (.getfield 29, 3) := by decide +kernel
theorem dX11_sumDoubleArea_92 : decode cX11_sumDoubleArea 92 = .ok (.iload 6, 2) := by decide +kernel
theorem dX11_sumDoubleArea_94 : decode cX11_sumDoubleArea 94 = .ok (.iaload, 1) := by decide +kernel
theorem dX11_sumDoubleArea_95 : decode cX11_sumDoubleArea 95 = .ok (.imul, 1) := by decide +kernel
theorem dX11_sumDoubleArea_96 : decode cX11_sumDoubleArea 96 = .ok (.isub, 1) := by decide +kernel
theorem dX11_sumDoubleArea_97 : decode cX11_sumDoubleArea 97 = .ok (.iadd, 1) := by decide +kernel
theorem dX11_sumDoubleArea_98 : decode cX11_sumDoubleArea 98 = .ok (.istore 5, 2) := by decide +kernel
theorem dX11_sumDoubleArea_100 : decode cX11_sumDoubleArea 100 = .ok (.iinc 6 1, 3) := by decide +kernel
theorem dX11_sumDoubleArea_103 : decode cX11_sumDoubleArea 103 = .ok (.goto (-59), 3) := by decide +kernel
theorem dX11_sumDoubleArea_106 : decode cX11_sumDoubleArea 106 = .ok (.iload 5, 2) := by decide +kernel
theorem dX11_sumDoubleArea_108 : decode cX11_sumDoubleArea 108 = .ok (.ireturn, 1) := by decide +kernel
abbrev rmX11_sumDoubleArea : Room := { frames := 4, cells := 0, slots := 0, locals := 160 }
abbrev sX11_sumDoubleArea (E : EV) : List AV → AH → (Option AV → AH → Prop) → Prop := Spec E yX11_sumDoubleArea cX11_sumDoubleArea 8 (some .int) rmX11_sumDoubleArea
theorem mX11_sumDoubleArea : Mt yX11_sumDoubleArea cX11_sumDoubleArea 8 (some .int) 4 := ⟨k1205, k12, by decide +kernel⟩
theorem vX11_sumDoubleArea : MtV yX11_sumDoubleArea 11 := ⟨k1203, k1204, by decide, (RX11, TX11, 26), rfl, rfl⟩
def PX11_sumDoubleArea_44 (E : EV) (post : Option AV → AH → Prop) (J44 : AH → Option Nat → Int32 → Int32 → Prop) (h : AH) (l0 : Option Nat) (l5 : Int32) (l6 : Int32) : Prop :=
  rdI h l0 11 18 fun x1 => (x1 ≤ l6 → post (some (aI l5)) h) ∧ (¬ x1 ≤ l6 → rdI h l0 11 18 fun x2 => ¬ x2 = 0 ∧ (∀ v3, v3 = ((l6 + (1 : Int32)) - (l6 + (1 : Int32)) / x2 * x2) → rdP h l0 11 19 fun x4 => aldI h x4 0 l6 fun x5 => rdP h l0 11 20 fun x6 => aldI h x6 0 v3 fun x7 => rdP h l0 11 19 fun x8 => aldI h x8 0 v3 fun x9 => rdP h l0 11 20 fun x10 => aldI h x10 0 l6 fun x11 => ∀ v12, v12 = (l5 + ((x5 * x7) - (x9 * x11))) → J44 h l0 v12 (l6 + (1 : Int32))))
theorem bX11_sumDoubleArea_44 {E : EV} {X : AX} {post : Option AV → AH → Prop} (C : Cb E X cX11_sumDoubleArea RX11 8 rmX11_sumDoubleArea) (D : Cr E X (some .int) rmX11_sumDoubleArea "sumDoubleArea" post) {J44 : AH → Option Nat → Int32 → Int32 → Prop} (g44 : ∀ (h : AH) (l0 : Option Nat) (l5 : Int32) (l6 : Int32), J44 h l0 l5 l6 → Go E X 8 0 0 44 [(0, aP l0), (5, aI l5), (6, aI l6)] [] h) {h : AH} {l0 : Option Nat} {l5 : Int32} {l6 : Int32} (w : PX11_sumDoubleArea_44 E post J44 h l0 l5 l6) : Go E X 8 0 0 44 [(0, aP l0), (5, aI l5), (6, aI l6)] [] h := by
  unfold PX11_sumDoubleArea_44 at w
  refine r_iload C dX11_sumDoubleArea_44 2 rfl ?_
  refine r_aload_n C dX11_sumDoubleArea_46 rfl 0 rfl ?_
  refine r_getI C fcX11 (f := 18) (by decide) rfl k961 dX11_sumDoubleArea_47 (w.mono fun x1 w => ?_)
  refine r_icmp_ge C dX11_sumDoubleArea_50 (tgt := 106) rfl (fun hc => ?_) (fun hc => ?_)
  · have w := w.1 hc
    refine r_iload C dX11_sumDoubleArea_106 1 rfl ?_
    exact r_iret C D rfl (Nat.zero_le _) (Nat.zero_le _) dX11_sumDoubleArea_108 w
  · have w := w.2 hc
    refine r_iload C dX11_sumDoubleArea_53 2 rfl ?_
    refine r_iconst (v := 1) C dX11_sumDoubleArea_55 rfl ?_
    refine r_iadd C dX11_sumDoubleArea_56 ?_
    refine r_aload_n C dX11_sumDoubleArea_57 rfl 0 rfl ?_
    refine r_getI C fcX11 (f := 18) (by decide) rfl k961 dX11_sumDoubleArea_58 (w.mono fun x2 w => ?_)
    refine r_irem C dX11_sumDoubleArea_61 w.1 ?_
    have w := w.2
    refine r_istore C dX11_sumDoubleArea_62 (by decide) rfl ?_
    have w := w _ rfl
    skip
    refine r_iload C dX11_sumDoubleArea_64 2 rfl ?_
    refine r_aload_n C dX11_sumDoubleArea_66 rfl 1 rfl ?_
    refine r_getP C fcX11 (f := 19) (by decide) rfl k962 dX11_sumDoubleArea_67 (w.mono fun x4 w => ?_)
    refine r_iload C dX11_sumDoubleArea_70 3 rfl ?_
    refine r_iald C dX11_sumDoubleArea_72 (w.mono fun x5 w => ?_)
    refine r_aload_n C dX11_sumDoubleArea_73 rfl 1 rfl ?_
    refine r_getP C fcX11 (f := 20) (by decide) rfl k963 dX11_sumDoubleArea_74 (w.mono fun x6 w => ?_)
    refine r_iload C dX11_sumDoubleArea_77 0 rfl ?_
    refine r_iald C dX11_sumDoubleArea_79 (w.mono fun x7 w => ?_)
    refine r_imul C dX11_sumDoubleArea_80 ?_
    refine r_aload_n C dX11_sumDoubleArea_81 rfl 1 rfl ?_
    refine r_getP C fcX11 (f := 19) (by decide) rfl k962 dX11_sumDoubleArea_82 (w.mono fun x8 w => ?_)
    refine r_iload C dX11_sumDoubleArea_85 0 rfl ?_
    refine r_iald C dX11_sumDoubleArea_87 (w.mono fun x9 w => ?_)
    refine r_aload_n C dX11_sumDoubleArea_88 rfl 1 rfl ?_
    refine r_getP C fcX11 (f := 20) (by decide) rfl k963 dX11_sumDoubleArea_89 (w.mono fun x10 w => ?_)
    refine r_iload C dX11_sumDoubleArea_92 3 rfl ?_
    refine r_iald C dX11_sumDoubleArea_94 (w.mono fun x11 w => ?_)
    refine r_imul C dX11_sumDoubleArea_95 ?_
    refine r_isub C dX11_sumDoubleArea_96 ?_
    refine r_iadd C dX11_sumDoubleArea_97 ?_
    refine r_istore C dX11_sumDoubleArea_98 (by decide) rfl ?_
    have w := w _ rfl
    skip
    refine r_iinc C dX11_sumDoubleArea_100 3 rfl (v := 1) rfl (by decide) rfl ?_
    refine r_goto C dX11_sumDoubleArea_103 (tgt := 44) rfl ?_
    exact r_sub [3, 1, 0] rfl (g44 h l0 (l5 + ((x5 * x7) - (x9 * x11))) (l6 + (1 : Int32)) w)
theorem lpX11_sumDoubleArea_44 {E : EV} {X : AX} {post : Option AV → AH → Prop} (C : Cb E X cX11_sumDoubleArea RX11 8 rmX11_sumDoubleArea) (D : Cr E X (some .int) rmX11_sumDoubleArea "sumDoubleArea" post) (I : Nat → AH → Option Nat → Int32 → Int32 → Prop) (step : ∀ (z : Nat) (h : AH) (l0 : Option Nat) (l5 : Int32) (l6 : Int32), I z h l0 l5 l6 → PX11_sumDoubleArea_44 E post (fun h l0 l5 l6 => ∃ z', z' < z ∧ I z' h l0 l5 l6) h l0 l5 l6) : ∀ (z : Nat) (h : AH) (l0 : Option Nat) (l5 : Int32) (l6 : Int32), I z h l0 l5 l6 → Go E X 8 0 0 44 [(0, aP l0), (5, aI l5), (6, aI l6)] [] h := by
  intro z
  induction z using Nat.strongRecOn with
  | _ z ih =>
    intro h l0 l5 l6 hI
    exact bX11_sumDoubleArea_44 C D (fun h l0 l5 l6 hJ => by obtain ⟨z', hz, hi⟩ := hJ; exact ih z' hz h l0 l5 l6 hi) (step z h l0 l5 l6 hI)
def PX11_sumDoubleArea_0 (E : EV) (post : Option AV → AH → Prop) (J44 : AH → Option Nat → Int32 → Int32 → Prop) (h : AH) (l0 : Option Nat) (l1 : Int32) (l2 : Int32) (l3 : Int32) (l4 : Int32) : Prop :=
  CV (sX11_hasPiece E) l0 11 [aI l1, aI l2] h (kI fun x1 h2 => (x1 = 0 → post (some (aI (-1000001 : Int32))) h2) ∧ (¬ x1 = 0 → CV (sX11_hasPiece E) l0 11 [aI l3, aI l4] h2 (kI fun x3 h4 => (¬ x3 = 0 → CS (sX11_slotAt E) [aI l1] h4 (kI fun x5 h6 => CS (sX11_slotAt E) [aI l3] h6 (kI fun x7 h8 => CV (sX11_laysSum E) l0 11 [aI (1 : Int32), aI x5, aI l2, aI x7, aI l4] h8 (kV fun h10 => J44 h10 l0 (0 : Int32) (0 : Int32))))) ∧ (x3 = 0 → post (some (aI (-1000001 : Int32))) h4))))
theorem bX11_sumDoubleArea_0 {E : EV} {X : AX} {post : Option AV → AH → Prop} (C : Cb E X cX11_sumDoubleArea RX11 8 rmX11_sumDoubleArea) (D : Cr E X (some .int) rmX11_sumDoubleArea "sumDoubleArea" post) {J44 : AH → Option Nat → Int32 → Int32 → Prop} (g44 : ∀ (h : AH) (l0 : Option Nat) (l5 : Int32) (l6 : Int32), J44 h l0 l5 l6 → Go E X 8 0 0 44 [(0, aP l0), (5, aI l5), (6, aI l6)] [] h) {h : AH} {l0 : Option Nat} {l1 : Int32} {l2 : Int32} {l3 : Int32} {l4 : Int32} (w : PX11_sumDoubleArea_0 E post J44 h l0 l1 l2 l3 l4) : Go E X 8 0 0 0 [(0, aP l0), (1, aI l1), (2, aI l2), (3, aI l3), (4, aI l4)] [] h := by
  unfold PX11_sumDoubleArea_0 at w
  refine r_aload_n C dX11_sumDoubleArea_0 rfl 0 rfl ?_
  refine r_iload_n C dX11_sumDoubleArea_1 rfl 1 rfl ?_
  refine r_iload_n C dX11_sumDoubleArea_2 rfl 2 rfl ?_
  refine r_cvI (rm' := rmX11_hasPiece) C mX11_hasPiece vX11_hasPiece k1135 [aI l1, aI l2] [] rfl rfl (Nat.le_of_ble_eq_true rfl) (by decide) ⟨Nat.zero_le _, Nat.zero_le _⟩ 0 0 rfl rfl dX11_sumDoubleArea_3 w (fun x1 h2 w => ?_)
  refine r_if_eq C dX11_sumDoubleArea_6 (tgt := 19) rfl (fun hc => ?_) (fun hc => ?_)
  · have w := w.1 hc
    refine r_ldc (v := -1000001) C dX11_sumDoubleArea_19 k1039 ?_
    exact r_iret C D rfl (Nat.zero_le _) (Nat.zero_le _) dX11_sumDoubleArea_21 w
  · have w := w.2 hc
    refine r_aload_n C dX11_sumDoubleArea_9 rfl 0 rfl ?_
    refine r_iload_n C dX11_sumDoubleArea_10 rfl 3 rfl ?_
    refine r_iload C dX11_sumDoubleArea_11 4 rfl ?_
    refine r_cvI (rm' := rmX11_hasPiece) C mX11_hasPiece vX11_hasPiece k1135 [aI l3, aI l4] [] rfl rfl (Nat.le_of_ble_eq_true rfl) (by decide) ⟨Nat.zero_le _, Nat.zero_le _⟩ 0 0 rfl rfl dX11_sumDoubleArea_13 w (fun x3 h4 w => ?_)
    refine r_if_ne C dX11_sumDoubleArea_16 (tgt := 22) rfl (fun hc => ?_) (fun hc => ?_)
    · have w := w.1 hc
      refine r_aload_n C dX11_sumDoubleArea_22 rfl 0 rfl ?_
      refine r_iconst (v := 1) C dX11_sumDoubleArea_23 rfl ?_
      refine r_iload_n C dX11_sumDoubleArea_24 rfl 1 rfl ?_
      refine r_csI (rm' := rmX11_slotAt) C mX11_slotAt vX11_slotAt k1100 [aI l1] [aI (1 : Int32), aP l0] rfl rfl (Nat.le_of_ble_eq_true rfl) (by decide) ⟨Nat.zero_le _, Nat.zero_le _⟩ 0 0 rfl rfl dX11_sumDoubleArea_25 w (fun x5 h6 w => ?_)
      refine r_iload_n C dX11_sumDoubleArea_28 rfl 2 rfl ?_
      refine r_iload_n C dX11_sumDoubleArea_29 rfl 3 rfl ?_
      refine r_csI (rm' := rmX11_slotAt) C mX11_slotAt vX11_slotAt k1100 [aI l3] [aI l2, aI x5, aI (1 : Int32), aP l0] rfl rfl (Nat.le_of_ble_eq_true rfl) (by decide) ⟨Nat.zero_le _, Nat.zero_le _⟩ 0 0 rfl rfl dX11_sumDoubleArea_30 w (fun x7 h8 w => ?_)
      refine r_iload C dX11_sumDoubleArea_33 4 rfl ?_
      refine r_cvV (rm' := rmX11_laysSum) C mX11_laysSum vX11_laysSum k1194 [aI (1 : Int32), aI x5, aI l2, aI x7, aI l4] [] rfl rfl (Nat.le_of_ble_eq_true rfl) (by decide) ⟨Nat.zero_le _, Nat.zero_le _⟩ 0 0 rfl rfl dX11_sumDoubleArea_35 w (fun h10 w => ?_)
      refine r_iconst (v := 0) C dX11_sumDoubleArea_38 rfl ?_
      refine r_istore C dX11_sumDoubleArea_39 (by decide) rfl ?_
      refine r_iconst (v := 0) C dX11_sumDoubleArea_41 rfl ?_
      refine r_istore C dX11_sumDoubleArea_42 (by decide) rfl ?_
      exact r_sub [2, 1, 0] rfl (g44 h10 l0 (0 : Int32) (0 : Int32) w)
    · have w := w.2 hc
      refine r_ldc (v := -1000001) C dX11_sumDoubleArea_19 k1039 ?_
      exact r_iret C D rfl (Nat.zero_le _) (Nat.zero_le _) dX11_sumDoubleArea_21 w
theorem eX11_sumDoubleArea {E : EV} {post : Option AV → AH → Prop} {h : AH} {l0 : Option Nat} {l1 : Int32} {l2 : Int32} {l3 : Int32} {l4 : Int32} {J44 : AH → Option Nat → Int32 → Int32 → Prop} (g44 : ∀ X : AX, Cb E X cX11_sumDoubleArea RX11 8 rmX11_sumDoubleArea → Cr E X (some .int) rmX11_sumDoubleArea "sumDoubleArea" post → ∀ (h : AH) (l0 : Option Nat) (l5 : Int32) (l6 : Int32), J44 h l0 l5 l6 → Go E X 8 0 0 44 [(0, aP l0), (5, aI l5), (6, aI l6)] [] h) (w : PX11_sumDoubleArea_0 E post J44 h l0 l1 l2 l3 l4) : sX11_sumDoubleArea E [aP l0, aI l1, aI l2, aI l3, aI l4] h post := Spec.of RX11 rfl rfl (Nat.le_of_ble_eq_true rfl) fun X C D => bX11_sumDoubleArea_0 C D (g44 X C D) w
