theorem dX10_itemAt_0 : decode cX10_itemAt 0 = .ok (.iload_n 1, 1) := by decide +kernel
theorem dX10_itemAt_1 : decode cX10_itemAt 1 = .ok (.invokestatic 185, 3) := by decide +kernel
theorem dX10_itemAt_4 : decode cX10_itemAt 4 = .ok (.ifCond .eq 10, 3) := by decide +kernel
theorem dX10_itemAt_7 : decode cX10_itemAt 7 = .ok (.iload_n 2, 1) := by decide +kernel
theorem dX10_itemAt_8 : decode cX10_itemAt 8 = .ok (.invokestatic 185, 3) := by decide +kernel
theorem dX10_itemAt_11 : decode cX10_itemAt 11 = .ok (.ifCond .ne 6, 3) := by decide +kernel
theorem dX10_itemAt_14 : decode cX10_itemAt 14 = .ok (.ldc 88, 2) := by decide +kernel
theorem dX10_itemAt_16 : decode cX10_itemAt 16 = .ok (.ireturn, 1) := by decide +kernel
theorem dX10_itemAt_17 : decode cX10_itemAt 17 = .ok (.iconst 0, 1) := by decide +kernel
theorem dX10_itemAt_18 : decode cX10_itemAt 18 = .ok (.istore_n 3, 1) := by decide +kernel
theorem dX10_itemAt_19 : decode cX10_itemAt 19 = .ok (.iload_n 3, 1) := by decide +kernel
theorem dX10_itemAt_20 : decode cX10_itemAt 20 = .ok (.aload_n 0, 1) := by decide +kernel
theorem dX10_itemAt_21 : decode cX10_itemAt 21 = .ok (.getfield 52, 3) := by decide +kernel
theorem dX10_itemAt_24 : decode cX10_itemAt 24 = .ok (.getfield 218, 3) := by decide +kernel
theorem dX10_itemAt_27 : decode cX10_itemAt 27 = .ok (.if_icmp .ge 21, 3) := by decide +kernel
theorem dX10_itemAt_30 : decode cX10_itemAt 30 = .ok (.aload_n 0, 1) := by decide +kernel
theorem dX10_itemAt_31 : decode cX10_itemAt 31 = .ok (.iload_n 3, 1) := by decide +kernel
theorem dX10_itemAt_32 : decode cX10_itemAt 32 = .ok (.iload_n 1, 1) := by decide +kernel
theorem dX10_itemAt_33 : decode cX10_itemAt 33 = .ok (.iload_n 2, 1) := by decide +kernel
theorem dX10_itemAt_34 : decode cX10_itemAt 34 = .ok (.invokevirtual 297, 3) := by decide +kernel
theorem dX10_itemAt_37 : decode cX10_itemAt 37 = .ok (.ifCond .eq 5, 3) := by decide +kernel
theorem dX10_itemAt_40 : decode cX10_itemAt 40 = .ok (.iload_n 3, 1) := by decide +kernel
theorem dX10_itemAt_41 : decode cX10_itemAt 41 = .ok (.ireturn, 1) := by decide +kernel
theorem dX10_itemAt_42 : decode cX10_itemAt 42 = .ok (.iinc 3 1, 3) := by decide +kernel
theorem dX10_itemAt_45 : decode cX10_itemAt 45 = .ok (.goto (-26), 3) := by decide +kernel
theorem dX10_itemAt_48 : decode cX10_itemAt 48 = .ok (.ldc 160, 2) := by decide +kernel
theorem dX10_itemAt_50 : decode cX10_itemAt 50 = .ok (.ireturn, 1) := by decide +kernel
abbrev rmX10_itemAt : Room := { frames := 4, cells := 0, slots := 0, locals := 160 }
abbrev sX10_itemAt (E : EV) : List AV → AH → (Option AV → AH → Prop) → Prop := Spec E yX10_itemAt cX10_itemAt 4 (some .int) rmX10_itemAt
theorem mX10_itemAt : Mt yX10_itemAt cX10_itemAt 4 (some .int) 2 := ⟨k889, k1, by decide +kernel⟩
theorem vX10_itemAt : MtV yX10_itemAt 10 := ⟨k887, k888, by decide, (RX10, TX10, 12), rfl, rfl⟩
def PX10_itemAt_19 (E : EV) (post : Option AV → AH → Prop) (J19 : AH → Option Nat → Int32 → Int32 → Int32 → Prop) (h : AH) (l0 : Option Nat) (l1 : Int32) (l2 : Int32) (l3 : Int32) : Prop :=
  rdP h l0 10 5 fun x1 => rdI h x1 8 5 fun x2 => (x2 ≤ l3 → post (some (aI (-1000009 : Int32))) h) ∧ (¬ x2 ≤ l3 → CV (sX10_itemContains E) l0 10 [aI l3, aI l1, aI l2] h (kI fun x3 h4 => (x3 = 0 → J19 h4 l0 l1 l2 (l3 + (1 : Int32))) ∧ (¬ x3 = 0 → post (some (aI l3)) h4)))
theorem bX10_itemAt_19 {E : EV} {X : AX} {post : Option AV → AH → Prop} (C : Cb E X cX10_itemAt RX10 4 rmX10_itemAt) (D : Cr E X (some .int) rmX10_itemAt "itemAt" post) {J19 : AH → Option Nat → Int32 → Int32 → Int32 → Prop} (g19 : ∀ (h : AH) (l0 : Option Nat) (l1 : Int32) (l2 : Int32) (l3 : Int32), J19 h l0 l1 l2 l3 → Go E X 4 0 0 19 [(0, aP l0), (1, aI l1), (2, aI l2), (3, aI l3)] [] h) {h : AH} {l0 : Option Nat} {l1 : Int32} {l2 : Int32} {l3 : Int32} (w : PX10_itemAt_19 E post J19 h l0 l1 l2 l3) : Go E X 4 0 0 19 [(0, aP l0), (1, aI l1), (2, aI l2), (3, aI l3)] [] h := by
  unfold PX10_itemAt_19 at w
  refine r_iload_n C dX10_itemAt_19 rfl 3 rfl ?_
  refine r_aload_n C dX10_itemAt_20 rfl 0 rfl ?_
  refine r_getP C fcX10 (f := 5) (by decide) rfl k316 dX10_itemAt_21 (w.mono fun x1 w => ?_)
  refine r_getI C fcX8 (f := 5) (by decide) rfl k261 dX10_itemAt_24 (w.mono fun x2 w => ?_)
  refine r_icmp_ge C dX10_itemAt_27 (tgt := 48) rfl (fun hc => ?_) (fun hc => ?_)
  · have w := w.1 hc
    refine r_ldc (v := -1000009) C dX10_itemAt_48 k593 ?_
    exact r_iret C D rfl (Nat.zero_le _) (Nat.zero_le _) dX10_itemAt_50 w
  · have w := w.2 hc
    refine r_aload_n C dX10_itemAt_30 rfl 0 rfl ?_
    refine r_iload_n C dX10_itemAt_31 rfl 3 rfl ?_
    refine r_iload_n C dX10_itemAt_32 rfl 1 rfl ?_
    refine r_iload_n C dX10_itemAt_33 rfl 2 rfl ?_
    refine r_cvI (rm' := rmX10_itemContains) C mX10_itemContains vX10_itemContains k890 [aI l3, aI l1, aI l2] [] rfl rfl (Nat.le_of_ble_eq_true rfl) (by decide) ⟨Nat.zero_le _, Nat.zero_le _⟩ 0 0 rfl rfl dX10_itemAt_34 w (fun x3 h4 w => ?_)
    refine r_if_eq C dX10_itemAt_37 (tgt := 42) rfl (fun hc => ?_) (fun hc => ?_)
    · have w := w.1 hc
      refine r_iinc C dX10_itemAt_42 3 rfl (v := 1) rfl (by decide) rfl ?_
      refine r_goto C dX10_itemAt_45 (tgt := 19) rfl ?_
      exact r_sub [1, 2, 3, 0] rfl (g19 h4 l0 l1 l2 (l3 + (1 : Int32)) w)
    · have w := w.2 hc
      refine r_iload_n C dX10_itemAt_40 rfl 3 rfl ?_
      exact r_iret C D rfl (Nat.zero_le _) (Nat.zero_le _) dX10_itemAt_41 w
theorem lpX10_itemAt_19 {E : EV} {X : AX} {post : Option AV → AH → Prop} (C : Cb E X cX10_itemAt RX10 4 rmX10_itemAt) (D : Cr E X (some .int) rmX10_itemAt "itemAt" post) (I : Nat → AH → Option Nat → Int32 → Int32 → Int32 → Prop) (step : ∀ (z : Nat) (h : AH) (l0 : Option Nat) (l1 : Int32) (l2 : Int32) (l3 : Int32), I z h l0 l1 l2 l3 → PX10_itemAt_19 E post (fun h l0 l1 l2 l3 => ∃ z', z' < z ∧ I z' h l0 l1 l2 l3) h l0 l1 l2 l3) : ∀ (z : Nat) (h : AH) (l0 : Option Nat) (l1 : Int32) (l2 : Int32) (l3 : Int32), I z h l0 l1 l2 l3 → Go E X 4 0 0 19 [(0, aP l0), (1, aI l1), (2, aI l2), (3, aI l3)] [] h := by
  intro z
  induction z using Nat.strongRecOn with
  | _ z ih =>
    intro h l0 l1 l2 l3 hI
    exact bX10_itemAt_19 C D (fun h l0 l1 l2 l3 hJ => by obtain ⟨z', hz, hi⟩ := hJ; exact ih z' hz h l0 l1 l2 l3 hi) (step z h l0 l1 l2 l3 hI)
def PX10_itemAt_0 (E : EV) (post : Option AV → AH → Prop) (J19 : AH → Option Nat → Int32 → Int32 → Int32 → Prop) (h : AH) (l0 : Option Nat) (l1 : Int32) (l2 : Int32) : Prop :=
  CS (sX10_isNear E) [aI l1] h (kI fun x1 h2 => (x1 = 0 → post (some (aI (-1000001 : Int32))) h2) ∧ (¬ x1 = 0 → CS (sX10_isNear E) [aI l2] h2 (kI fun x3 h4 => (¬ x3 = 0 → J19 h4 l0 l1 l2 (0 : Int32)) ∧ (x3 = 0 → post (some (aI (-1000001 : Int32))) h4))))
theorem bX10_itemAt_0 {E : EV} {X : AX} {post : Option AV → AH → Prop} (C : Cb E X cX10_itemAt RX10 4 rmX10_itemAt) (D : Cr E X (some .int) rmX10_itemAt "itemAt" post) {J19 : AH → Option Nat → Int32 → Int32 → Int32 → Prop} (g19 : ∀ (h : AH) (l0 : Option Nat) (l1 : Int32) (l2 : Int32) (l3 : Int32), J19 h l0 l1 l2 l3 → Go E X 4 0 0 19 [(0, aP l0), (1, aI l1), (2, aI l2), (3, aI l3)] [] h) {h : AH} {l0 : Option Nat} {l1 : Int32} {l2 : Int32} (w : PX10_itemAt_0 E post J19 h l0 l1 l2) : Go E X 4 0 0 0 [(0, aP l0), (1, aI l1), (2, aI l2)] [] h := by
  unfold PX10_itemAt_0 at w
  refine r_iload_n C dX10_itemAt_0 rfl 1 rfl ?_
  refine r_csI (rm' := rmX10_isNear) C mX10_isNear vX10_isNear k649 [aI l1] [] rfl rfl (Nat.le_of_ble_eq_true rfl) (by decide) ⟨Nat.zero_le _, Nat.zero_le _⟩ 0 0 rfl rfl dX10_itemAt_1 w (fun x1 h2 w => ?_)
  refine r_if_eq C dX10_itemAt_4 (tgt := 14) rfl (fun hc => ?_) (fun hc => ?_)
  · have w := w.1 hc
    refine r_ldc (v := -1000001) C dX10_itemAt_14 k352 ?_
    exact r_iret C D rfl (Nat.zero_le _) (Nat.zero_le _) dX10_itemAt_16 w
  · have w := w.2 hc
    refine r_iload_n C dX10_itemAt_7 rfl 2 rfl ?_
    refine r_csI (rm' := rmX10_isNear) C mX10_isNear vX10_isNear k649 [aI l2] [] rfl rfl (Nat.le_of_ble_eq_true rfl) (by decide) ⟨Nat.zero_le _, Nat.zero_le _⟩ 0 0 rfl rfl dX10_itemAt_8 w (fun x3 h4 w => ?_)
    refine r_if_ne C dX10_itemAt_11 (tgt := 17) rfl (fun hc => ?_) (fun hc => ?_)
    · have w := w.1 hc
      refine r_iconst (v := 0) C dX10_itemAt_17 rfl ?_
      refine r_istore_n C dX10_itemAt_18 rfl (by decide) rfl ?_
      exact r_sub [1, 2, 3, 0] rfl (g19 h4 l0 l1 l2 (0 : Int32) w)
    · have w := w.2 hc
      refine r_ldc (v := -1000001) C dX10_itemAt_14 k352 ?_
      exact r_iret C D rfl (Nat.zero_le _) (Nat.zero_le _) dX10_itemAt_16 w
theorem eX10_itemAt {E : EV} {post : Option AV → AH → Prop} {h : AH} {l0 : Option Nat} {l1 : Int32} {l2 : Int32} {J19 : AH → Option Nat → Int32 → Int32 → Int32 → Prop} (g19 : ∀ X : AX, Cb E X cX10_itemAt RX10 4 rmX10_itemAt → Cr E X (some .int) rmX10_itemAt "itemAt" post → ∀ (h : AH) (l0 : Option Nat) (l1 : Int32) (l2 : Int32) (l3 : Int32), J19 h l0 l1 l2 l3 → Go E X 4 0 0 19 [(0, aP l0), (1, aI l1), (2, aI l2), (3, aI l3)] [] h) (w : PX10_itemAt_0 E post J19 h l0 l1 l2) : sX10_itemAt E [aP l0, aI l1, aI l2] h post := Spec.of RX10 rfl rfl (Nat.le_of_ble_eq_true rfl) fun X C D => bX10_itemAt_0 C D (g19 X C D) w
theorem dX10_itemCount_0 : decode cX10_itemCount 0 = .ok (.aload_n 0, 1) := by decide +kernel
theorem dX10_itemCount_1 : decode cX10_itemCount 1 = .ok (.getfield 52, 3) := by decide +kernel
theorem dX10_itemCount_4 : decode cX10_itemCount 4 = .ok (.getfield 218, 3) := by decide +kernel
theorem dX10_itemCount_7 : decode cX10_itemCount 7 = .ok (.ireturn, 1) := by decide +kernel
abbrev rmX10_itemCount : Room := { frames := 0, cells := 0, slots := 0, locals := 0 }
abbrev sX10_itemCount (E : EV) : List AV → AH → (Option AV → AH → Prop) → Prop := Spec E yX10_itemCount cX10_itemCount 1 (some .int) rmX10_itemCount
theorem mX10_itemCount : Mt yX10_itemCount cX10_itemCount 1 (some .int) 0 := ⟨k859, k1, by decide +kernel⟩
theorem vX10_itemCount : MtV yX10_itemCount 10 := ⟨k857, k858, by decide, (RX10, TX10, 12), rfl, rfl⟩
def PX10_itemCount_0 (E : EV) (post : Option AV → AH → Prop) (h : AH) (l0 : Option Nat) : Prop :=
  rdP h l0 10 5 fun x1 => rdI h x1 8 5 fun x2 => post (some (aI x2)) h
theorem bX10_itemCount_0 {E : EV} {X : AX} {post : Option AV → AH → Prop} (C : Cb E X cX10_itemCount RX10 1 rmX10_itemCount) (D : Cr E X (some .int) rmX10_itemCount "itemCount" post) {h : AH} {l0 : Option Nat} (w : PX10_itemCount_0 E post h l0) : Go E X 1 0 0 0 [(0, aP l0)] [] h := by
  unfold PX10_itemCount_0 at w
  refine r_aload_n C dX10_itemCount_0 rfl 0 rfl ?_
  refine r_getP C fcX10 (f := 5) (by decide) rfl k316 dX10_itemCount_1 (w.mono fun x1 w => ?_)
  refine r_getI C fcX8 (f := 5) (by decide) rfl k261 dX10_itemCount_4 (w.mono fun x2 w => ?_)
  exact r_iret C D rfl (Nat.zero_le _) (Nat.zero_le _) dX10_itemCount_7 w
theorem eX10_itemCount {E : EV} {post : Option AV → AH → Prop} {h : AH} {l0 : Option Nat} (w : PX10_itemCount_0 E post h l0) : sX10_itemCount E [aP l0] h post := Spec.of RX10 rfl rfl (Nat.le_of_ble_eq_true rfl) fun X C D => bX10_itemCount_0 C D w
theorem dX10_itemGap_0 : decode cX10_itemGap 0 = .ok (.aload_n 0, 1) := by decide +kernel
theorem dX10_itemGap_1 : decode cX10_itemGap 1 = .ok (.iload_n 1, 1) := by decide +kernel
theorem dX10_itemGap_2 : decode cX10_itemGap 2 = .ok (.invokevirtual 258, 3) := by decide +kernel
theorem dX10_itemGap_5 : decode cX10_itemGap 5 = .ok (.ifCond .eq 23, 3) := by decide +kernel
theorem dX10_itemGap_8 : decode cX10_itemGap 8 = .ok (.aload_n 0, 1) := by decide +kernel
theorem dX10_itemGap_9 : decode cX10_itemGap 9 = .ok (.iload_n 2, 1) := by decide +kernel
theorem dX10_itemGap_10 : decode cX10_itemGap 10 = .ok (.invokevirtual 258, 3) := by decide +kernel
theorem dX10_itemGap_13 : decode cX10_itemGap 13 = .ok (.ifCond .eq 15, 3) := by decide +kernel
theorem dX10_itemGap_16 : decode cX10_itemGap 16 = .ok (.iload_n 1, 1) := by decide +kernel
theorem dX10_itemGap_17 : decode cX10_itemGap 17 = .ok (.iload_n 2, 1) := by decide +kernel
theorem dX10_itemGap_18 : decode cX10_itemGap 18 = .ok (.if_icmp .eq 10, 3) := by decide +kernel
theorem dX10_itemGap_21 : decode cX10_itemGap 21 = .ok (.iload_n 3, 1) := by decide +kernel
theorem dX10_itemGap_22 : decode cX10_itemGap 22 = .ok (.invokestatic 157, 3) := by decide +kernel
theorem dX10_itemGap_25 : decode cX10_itemGap 25 = .ok (.ifCond .ne 6, 3) := by decide +kernel
theorem dX10_itemGap_28 : decode cX10_itemGap 28 = .ok (.ldc 88, 2) := by decide +kernel
theorem dX10_itemGap_30 : decode cX10_itemGap 30 = .ok (.ireturn, 1) := by decide +kernel
theorem dX10_itemGap_31 : decode cX10_itemGap 31 = .ok (.aload_n 0, 1) := by decide +kernel
theorem dX10_itemGap_32 : decode cX10_itemGap 32 = .ok (.iload_n 1, 1) := by decide +kernel
theorem dX10_itemGap_33 : decode cX10_itemGap 33 = .ok (.iload_n 2, 1) := by decide +kernel
theorem dX10_itemGap_34 : decode cX10_itemGap 34 = .ok (.invokevirtual 279, 3) := by decide +kernel
theorem dX10_itemGap_37 : decode cX10_itemGap 37 = .ok (.aload_n 0, 1) := by decide +kernel
theorem dX10_itemGap_38 : decode cX10_itemGap 38 = .ok (.getfield 36, 3) := by decide +kernel
theorem dX10_itemGap_41 : decode cX10_itemGap 41 = .ok (.getfield 199, 3) := by decide +kernel
theorem dX10_itemGap_44 : decode cX10_itemGap 44 = .ok (.iload_n 3, 1) := by decide +kernel
theorem dX10_itemGap_45 : decode cX10_itemGap 45 = .ok (.invokevirtual 202, 3) := by decide +kernel
theorem dX10_itemGap_48 : decode cX10_itemGap 48 = .ok (.ireturn, 1) := by decide +kernel
abbrev rmX10_itemGap : Room := { frames := 6, cells := 0, slots := 0, locals := 240 }
abbrev sX10_itemGap (E : EV) : List AV → AH → (Option AV → AH → Prop) → Prop := Spec E yX10_itemGap cX10_itemGap 4 (some .int) rmX10_itemGap
theorem mX10_itemGap : Mt yX10_itemGap cX10_itemGap 4 (some .int) 3 := ⟨k875, k1, by decide +kernel⟩
theorem vX10_itemGap : MtV yX10_itemGap 10 := ⟨k873, k874, by decide, (RX10, TX10, 12), rfl, rfl⟩
def PX10_itemGap_0 (E : EV) (post : Option AV → AH → Prop) (h : AH) (l0 : Option Nat) (l1 : Int32) (l2 : Int32) (l3 : Int32) : Prop :=
  CV (sX10_isItem E) l0 10 [aI l1] h (kI fun x1 h2 => (x1 = 0 → post (some (aI (-1000001 : Int32))) h2) ∧ (¬ x1 = 0 → CV (sX10_isItem E) l0 10 [aI l2] h2 (kI fun x3 h4 => (x3 = 0 → post (some (aI (-1000001 : Int32))) h4) ∧ (¬ x3 = 0 → (l1 = l2 → post (some (aI (-1000001 : Int32))) h4) ∧ (¬ l1 = l2 → CS (sX10_isPart E) [aI l3] h4 (kI fun x5 h6 => (¬ x5 = 0 → CV (sX10_measureItemGap E) l0 10 [aI l1, aI l2] h6 (kV fun h8 => rdP h8 l0 10 3 fun x9 => rdP h8 x9 3 3 fun x10 => CV (sX0_part E) x10 0 [aI l3] h8 (kI fun x11 h12 => post (some (aI x11)) h12))) ∧ (x5 = 0 → post (some (aI (-1000001 : Int32))) h6)))))))
theorem bX10_itemGap_0 {E : EV} {X : AX} {post : Option AV → AH → Prop} (C : Cb E X cX10_itemGap RX10 4 rmX10_itemGap) (D : Cr E X (some .int) rmX10_itemGap "itemGap" post) {h : AH} {l0 : Option Nat} {l1 : Int32} {l2 : Int32} {l3 : Int32} (w : PX10_itemGap_0 E post h l0 l1 l2 l3) : Go E X 4 0 0 0 [(0, aP l0), (1, aI l1), (2, aI l2), (3, aI l3)] [] h := by
  unfold PX10_itemGap_0 at w
  refine r_aload_n C dX10_itemGap_0 rfl 0 rfl ?_
  refine r_iload_n C dX10_itemGap_1 rfl 1 rfl ?_
  refine r_cvI (rm' := rmX10_isItem) C mX10_isItem vX10_isItem k834 [aI l1] [] rfl rfl (Nat.le_of_ble_eq_true rfl) (by decide) ⟨Nat.zero_le _, Nat.zero_le _⟩ 0 0 rfl rfl dX10_itemGap_2 w (fun x1 h2 w => ?_)
  refine r_if_eq C dX10_itemGap_5 (tgt := 28) rfl (fun hc => ?_) (fun hc => ?_)
  · have w := w.1 hc
    refine r_ldc (v := -1000001) C dX10_itemGap_28 k352 ?_
    exact r_iret C D rfl (Nat.zero_le _) (Nat.zero_le _) dX10_itemGap_30 w
  · have w := w.2 hc
    refine r_aload_n C dX10_itemGap_8 rfl 0 rfl ?_
    refine r_iload_n C dX10_itemGap_9 rfl 2 rfl ?_
    refine r_cvI (rm' := rmX10_isItem) C mX10_isItem vX10_isItem k834 [aI l2] [] rfl rfl (Nat.le_of_ble_eq_true rfl) (by decide) ⟨Nat.zero_le _, Nat.zero_le _⟩ 0 0 rfl rfl dX10_itemGap_10 w (fun x3 h4 w => ?_)
    refine r_if_eq C dX10_itemGap_13 (tgt := 28) rfl (fun hc => ?_) (fun hc => ?_)
    · have w := w.1 hc
      refine r_ldc (v := -1000001) C dX10_itemGap_28 k352 ?_
      exact r_iret C D rfl (Nat.zero_le _) (Nat.zero_le _) dX10_itemGap_30 w
    · have w := w.2 hc
      refine r_iload_n C dX10_itemGap_16 rfl 1 rfl ?_
      refine r_iload_n C dX10_itemGap_17 rfl 2 rfl ?_
      refine r_icmp_eq C dX10_itemGap_18 (tgt := 28) rfl (fun hc => ?_) (fun hc => ?_)
      · have w := w.1 hc
        refine r_ldc (v := -1000001) C dX10_itemGap_28 k352 ?_
        exact r_iret C D rfl (Nat.zero_le _) (Nat.zero_le _) dX10_itemGap_30 w
      · have w := w.2 hc
        refine r_iload_n C dX10_itemGap_21 rfl 3 rfl ?_
        refine r_csI (rm' := rmX10_isPart) C mX10_isPart vX10_isPart k590 [aI l3] [] rfl rfl (Nat.le_of_ble_eq_true rfl) (by decide) ⟨Nat.zero_le _, Nat.zero_le _⟩ 0 0 rfl rfl dX10_itemGap_22 w (fun x5 h6 w => ?_)
        refine r_if_ne C dX10_itemGap_25 (tgt := 31) rfl (fun hc => ?_) (fun hc => ?_)
        · have w := w.1 hc
          refine r_aload_n C dX10_itemGap_31 rfl 0 rfl ?_
          refine r_iload_n C dX10_itemGap_32 rfl 1 rfl ?_
          refine r_iload_n C dX10_itemGap_33 rfl 2 rfl ?_
          refine r_cvV (rm' := rmX10_measureItemGap) C mX10_measureItemGap vX10_measureItemGap k876 [aI l1, aI l2] [] rfl rfl (Nat.le_of_ble_eq_true rfl) (by decide) ⟨Nat.zero_le _, Nat.zero_le _⟩ 0 0 rfl rfl dX10_itemGap_34 w (fun h8 w => ?_)
          refine r_aload_n C dX10_itemGap_37 rfl 0 rfl ?_
          refine r_getP C fcX10 (f := 3) (by decide) rfl k314 dX10_itemGap_38 (w.mono fun x9 w => ?_)
          refine r_getP C fcX3 (f := 3) (by decide) rfl k191 dX10_itemGap_41 (w.mono fun x10 w => ?_)
          refine r_iload_n C dX10_itemGap_44 rfl 3 rfl ?_
          refine r_cvI (rm' := rmX0_part) C mX0_part vX0_part k691 [aI l3] [] rfl rfl (Nat.le_of_ble_eq_true rfl) (by decide) ⟨Nat.zero_le _, Nat.zero_le _⟩ 0 0 rfl rfl dX10_itemGap_45 w (fun x11 h12 w => ?_)
          exact r_iret C D rfl (Nat.zero_le _) (Nat.zero_le _) dX10_itemGap_48 w
        · have w := w.2 hc
          refine r_ldc (v := -1000001) C dX10_itemGap_28 k352 ?_
          exact r_iret C D rfl (Nat.zero_le _) (Nat.zero_le _) dX10_itemGap_30 w
theorem eX10_itemGap {E : EV} {post : Option AV → AH → Prop} {h : AH} {l0 : Option Nat} {l1 : Int32} {l2 : Int32} {l3 : Int32} (w : PX10_itemGap_0 E post h l0 l1 l2 l3) : sX10_itemGap E [aP l0, aI l1, aI l2, aI l3] h post := Spec.of RX10 rfl rfl (Nat.le_of_ble_eq_true rfl) fun X C D => bX10_itemGap_0 C D w
theorem dX10_itemPlace_0 : decode cX10_itemPlace 0 = .ok (.aload_n 0, 1) := by decide +kernel
theorem dX10_itemPlace_1 : decode cX10_itemPlace 1 = .ok (.iload_n 1, 1) := by decide +kernel
theorem dX10_itemPlace_2 : decode cX10_itemPlace 2 = .ok (.invokevirtual 258, 3) := by decide +kernel
theorem dX10_itemPlace_5 : decode cX10_itemPlace 5 = .ok (.ifCond .eq 10, 3) := by decide +kernel
theorem dX10_itemPlace_8 : decode cX10_itemPlace 8 = .ok (.iload_n 2, 1) := by decide +kernel
theorem dX10_itemPlace_9 : decode cX10_itemPlace 9 = .ok (.invokestatic 157, 3) := by decide +kernel
theorem dX10_itemPlace_12 : decode cX10_itemPlace 12 = .ok (.ifCond .ne 6, 3) := by decide +kernel
theorem dX10_itemPlace_15 : decode cX10_itemPlace 15 = .ok (.ldc 88, 2) := by decide +kernel
theorem dX10_itemPlace_17 : decode cX10_itemPlace 17 = .ok (.ireturn, 1) := by decide +kernel
theorem dX10_itemPlace_18 : decode cX10_itemPlace 18 = .ok (.iload_n 2, 1) := by decide +kernel
theorem dX10_itemPlace_19 : decode cX10_itemPlace 19 = .ok (.ifCond .ne 14, 3) := by decide +kernel
theorem dX10_itemPlace_22 : decode cX10_itemPlace 22 = .ok (.aload_n 0, 1) := by decide +kernel
theorem dX10_itemPlace_23 : decode cX10_itemPlace 23 = .ok (.getfield 52, 3) := by decide +kernel
theorem dX10_itemPlace_26 : decode cX10_itemPlace 26 = .ok (.iload_n 1, 1) := by decide +kernel
theorem dX10_itemPlace_27 : decode cX10_itemPlace 27 = .ok (.invokevirtual 274, 3) := by decide +kernel
theorem dX10_itemPlace_30 : decode cX10_itemPlace 30 = .ok (.goto 11, 3) := by decide +kernel
theorem dX10_itemPlace_33 : decode cX10_itemPlace 33 = .ok (.aload_n 0, 1) := by decide +kernel
theorem dX10_itemPlace_34 : decode cX10_itemPlace 34 = .ok (.getfield 52, 3) := by decide +kernel
theorem dX10_itemPlace_37 : decode cX10_itemPlace 37 = .ok (.iload_n 1, 1) := by decide +kernel
theorem dX10_itemPlace_38 : decode cX10_itemPlace 38 = .ok (.invokevirtual 275, 3) := by decide +kernel
theorem dX10_itemPlace_41 : decode cX10_itemPlace 41 = .ok (.ireturn, 1) := by decide +kernel
abbrev rmX10_itemPlace : Room := { frames := 1, cells := 0, slots := 0, locals := 40 }
abbrev sX10_itemPlace (E : EV) : List AV → AH → (Option AV → AH → Prop) → Prop := Spec E yX10_itemPlace cX10_itemPlace 3 (some .int) rmX10_itemPlace
theorem mX10_itemPlace : Mt yX10_itemPlace cX10_itemPlace 3 (some .int) 2 := ⟨k863, k1, by decide +kernel⟩
theorem vX10_itemPlace : MtV yX10_itemPlace 10 := ⟨k861, k862, by decide, (RX10, TX10, 12), rfl, rfl⟩
def PX10_itemPlace_0 (E : EV) (post : Option AV → AH → Prop) (h : AH) (l0 : Option Nat) (l1 : Int32) (l2 : Int32) : Prop :=
  CV (sX10_isItem E) l0 10 [aI l1] h (kI fun x1 h2 => (x1 = 0 → post (some (aI (-1000001 : Int32))) h2) ∧ (¬ x1 = 0 → CS (sX10_isPart E) [aI l2] h2 (kI fun x3 h4 => (¬ x3 = 0 → (¬ l2 = 0 → rdP h4 l0 10 5 fun x5 => CV (sX8_y E) x5 8 [aI l1] h4 (kI fun x6 h7 => post (some (aI x6)) h7)) ∧ (l2 = 0 → rdP h4 l0 10 5 fun x5 => CV (sX8_x E) x5 8 [aI l1] h4 (kI fun x6 h7 => post (some (aI x6)) h7))) ∧ (x3 = 0 → post (some (aI (-1000001 : Int32))) h4))))
theorem bX10_itemPlace_0 {E : EV} {X : AX} {post : Option AV → AH → Prop} (C : Cb E X cX10_itemPlace RX10 3 rmX10_itemPlace) (D : Cr E X (some .int) rmX10_itemPlace "itemPlace" post) {h : AH} {l0 : Option Nat} {l1 : Int32} {l2 : Int32} (w : PX10_itemPlace_0 E post h l0 l1 l2) : Go E X 3 0 0 0 [(0, aP l0), (1, aI l1), (2, aI l2)] [] h := by
  unfold PX10_itemPlace_0 at w
  refine r_aload_n C dX10_itemPlace_0 rfl 0 rfl ?_
  refine r_iload_n C dX10_itemPlace_1 rfl 1 rfl ?_
  refine r_cvI (rm' := rmX10_isItem) C mX10_isItem vX10_isItem k834 [aI l1] [] rfl rfl (Nat.le_of_ble_eq_true rfl) (by decide) ⟨Nat.zero_le _, Nat.zero_le _⟩ 0 0 rfl rfl dX10_itemPlace_2 w (fun x1 h2 w => ?_)
  refine r_if_eq C dX10_itemPlace_5 (tgt := 15) rfl (fun hc => ?_) (fun hc => ?_)
  · have w := w.1 hc
    refine r_ldc (v := -1000001) C dX10_itemPlace_15 k352 ?_
    exact r_iret C D rfl (Nat.zero_le _) (Nat.zero_le _) dX10_itemPlace_17 w
  · have w := w.2 hc
    refine r_iload_n C dX10_itemPlace_8 rfl 2 rfl ?_
    refine r_csI (rm' := rmX10_isPart) C mX10_isPart vX10_isPart k590 [aI l2] [] rfl rfl (Nat.le_of_ble_eq_true rfl) (by decide) ⟨Nat.zero_le _, Nat.zero_le _⟩ 0 0 rfl rfl dX10_itemPlace_9 w (fun x3 h4 w => ?_)
    refine r_if_ne C dX10_itemPlace_12 (tgt := 18) rfl (fun hc => ?_) (fun hc => ?_)
    · have w := w.1 hc
      refine r_iload_n C dX10_itemPlace_18 rfl 2 rfl ?_
      refine r_if_ne C dX10_itemPlace_19 (tgt := 33) rfl (fun hc => ?_) (fun hc => ?_)
      · have w := w.1 hc
        refine r_aload_n C dX10_itemPlace_33 rfl 0 rfl ?_
        refine r_getP C fcX10 (f := 5) (by decide) rfl k316 dX10_itemPlace_34 (w.mono fun x5 w => ?_)
        refine r_iload_n C dX10_itemPlace_37 rfl 1 rfl ?_
        refine r_cvI (rm' := rmX8_y) C mX8_y vX8_y k744 [aI l1] [] rfl rfl (Nat.le_of_ble_eq_true rfl) (by decide) ⟨Nat.zero_le _, Nat.zero_le _⟩ 0 0 rfl rfl dX10_itemPlace_38 w (fun x6 h7 w => ?_)
        exact r_iret C D rfl (Nat.zero_le _) (Nat.zero_le _) dX10_itemPlace_41 w
      · have w := w.2 hc
        refine r_aload_n C dX10_itemPlace_22 rfl 0 rfl ?_
        refine r_getP C fcX10 (f := 5) (by decide) rfl k316 dX10_itemPlace_23 (w.mono fun x5 w => ?_)
        refine r_iload_n C dX10_itemPlace_26 rfl 1 rfl ?_
        refine r_cvI (rm' := rmX8_x) C mX8_x vX8_x k743 [aI l1] [] rfl rfl (Nat.le_of_ble_eq_true rfl) (by decide) ⟨Nat.zero_le _, Nat.zero_le _⟩ 0 0 rfl rfl dX10_itemPlace_27 w (fun x6 h7 w => ?_)
        refine r_goto C dX10_itemPlace_30 (tgt := 41) rfl ?_
        exact r_iret C D rfl (Nat.zero_le _) (Nat.zero_le _) dX10_itemPlace_41 w
    · have w := w.2 hc
      refine r_ldc (v := -1000001) C dX10_itemPlace_15 k352 ?_
      exact r_iret C D rfl (Nat.zero_le _) (Nat.zero_le _) dX10_itemPlace_17 w
theorem eX10_itemPlace {E : EV} {post : Option AV → AH → Prop} {h : AH} {l0 : Option Nat} {l1 : Int32} {l2 : Int32} (w : PX10_itemPlace_0 E post h l0 l1 l2) : sX10_itemPlace E [aP l0, aI l1, aI l2] h post := Spec.of RX10 rfl rfl (Nat.le_of_ble_eq_true rfl) fun X C D => bX10_itemPlace_0 C D w
theorem dX10_loadLayout_0 : decode cX10_loadLayout 0 = .ok (.aload_n 0, 1) := by decide +kernel
theorem dX10_loadLayout_1 : decode cX10_loadLayout 1 = .ok (.getfield 29, 3) := by decide +kernel
theorem dX10_loadLayout_4 : decode cX10_loadLayout 4 = .ok (.aload_n 0, 1) := by decide +kernel
theorem dX10_loadLayout_5 : decode cX10_loadLayout 5 = .ok (.getfield 13, 3) := by decide +kernel
theorem dX10_loadLayout_8 : decode cX10_loadLayout 8 = .ok (.invokevirtual 248, 3) := by decide +kernel
theorem dX10_loadLayout_11 : decode cX10_loadLayout 11 = .ok (.ifCond .ne 14, 3) := by decide +kernel
theorem dX10_loadLayout_14 : decode cX10_loadLayout 14 = .ok (.bipush (-10), 2) := by decide +kernel
theorem dX10_loadLayout_16 : decode cX10_loadLayout 16 = .ok (.aload_n 0, 1) := by decide +kernel
theorem dX10_loadLayout_17 : decode cX10_loadLayout 17 = .ok (.getfield 13, 3) := by decide +kernel
theorem dX10_loadLayout_20 : decode cX10_loadLayout 20 = .ok (.getfield 106, 3) := by decide +kernel
theorem dX10_loadLayout_23 : decode cX10_loadLayout 23 = .ok (.isub, 1) := by decide +kernel
theorem dX10_loadLayout_24 : decode cX10_loadLayout 24 = .ok (.ireturn, 1) := by decide +kernel
theorem dX10_loadLayout_25 : decode cX10_loadLayout 25 = .ok (.aload_n 0, 1) := by decide +kernel
theorem dX10_loadLayout_26 : decode cX10_loadLayout 26 = .ok (.getfield 29, 3) := by decide +kernel
theorem dX10_loadLayout_29 : decode cX10_loadLayout 29 = .ok (.getfield 249, 3) := by decide +kernel
theorem dX10_loadLayout_32 : decode cX10_loadLayout 32 = .ok (.bipush 8, 2) := by decide +kernel
theorem dX10_loadLayout_34 : decode cX10_loadLayout 34 = .ok (.if_icmp .le 6, 3) := by decide +kernel
theorem dX10_loadLayout_37 : decode cX10_loadLayout 37 = .ok (.ldc 124, 2) := by decide +kernel
theorem dX10_loadLayout_39 : decode cX10_loadLayout 39 = .ok (.ireturn, 1) := by decide +kernel
theorem dX10_loadLayout_40 : decode cX10_loadLayout 40 = .ok (.aload_n 0, 1) := by decide +kernel
theorem dX10_loadLayout_41 : decode cX10_loadLayout 41 = .ok (.getfield 56, 3) := by decide +kernel
theorem dX10_loadLayout_44 : decode cX10_loadLayout 44 = .ok (.aload_n 0, 1) := by decide +kernel
theorem dX10_loadLayout_45 : decode cX10_loadLayout 45 = .ok (.getfield 52, 3) := by decide +kernel
theorem dX10_loadLayout_48 : decode cX10_loadLayout 48 = .ok (.invokevirtual 209, 3) := by decide +kernel
theorem dX10_loadLayout_51 : decode cX10_loadLayout 51 = .ok (.aload_n 0, 1) := by decide +kernel
theorem dX10_loadLayout_52 : decode cX10_loadLayout 52 = .ok (.getfield 52, 3) := by decide +kernel
theorem dX10_loadLayout_55 : decode cX10_loadLayout 55 = .ok (.iconst 0, 1) := by decide +kernel
theorem dX10_loadLayout_56 : decode cX10_loadLayout 56 = .ok (.putfield 218, 3) := by decide +kernel
theorem dX10_loadLayout_59 : decode cX10_loadLayout 59 = .ok (.iconst 0, 1) := by decide +kernel
theorem dX10_loadLayout_60 : decode cX10_loadLayout 60 = .ok (.istore_n 1, 1) := by decide +kernel
theorem dX10_loadLayout_61 : decode cX10_loadLayout 61 = .ok (.iload_n 1, 1) := by decide +kernel
theorem dX10_loadLayout_62 : decode cX10_loadLayout 62 = .ok (.aload_n 0, 1) := by decide +kernel
theorem dX10_loadLayout_63 : decode cX10_loadLayout 63 = .ok (.getfield 29, 3) := by decide +kernel
theorem dX10_loadLayout_66 : decode cX10_loadLayout 66 = .ok (.getfield 249, 3) := by decide +kernel
theorem dX10_loadLayout_69 : decode cX10_loadLayout 69 = .ok (.if_icmp .ge 87, 3) := by decide +kernel
theorem dX10_loadLayout_72 : decode cX10_loadLayout 72 = .ok (.aload_n 0, 1) := by decide +kernel
theorem dX10_loadLayout_73 : decode cX10_loadLayout 73 = .ok (.getfield 52, 3) := by decide +kernel
theorem dX10_loadLayout_76 : decode cX10_loadLayout 76 = .ok (.aload_n 0, 1) := by decide +kernel
theorem dX10_loadLayout_77 : decode cX10_loadLayout 77 = .ok (.getfield 29, 3) := by decide +kernel
theorem dX10_loadLayout_80 : decode cX10_loadLayout 80 = .ok (.iload_n 1, 1) := by decide +kernel
theorem dX10_loadLayout_81 : decode cX10_loadLayout 81 = .ok (.invokevirtual 250, 3) := by decide +kernel
theorem dX10_loadLayout_84 : decode cX10_loadLayout 84 = .ok (.invokevirtual 116, 3) := by decide +kernel
theorem dX10_loadLayout_87 : decode cX10_loadLayout 87 = .ok (.astore_n 2, 1) := by decide +kernel
theorem dX10_loadLayout_88 : decode cX10_loadLayout 88 = .ok (.aload_n 0, 1) := by decide +kernel
theorem dX10_loadLayout_89 : decode cX10_loadLayout 89 = .ok (.aload_n 2, 1) := by decide +kernel
theorem dX10_loadLayout_90 : decode cX10_loadLayout 90 = .ok (.aload_n 0, 1) := by decide +kernel
theorem dX10_loadLayout_91 : decode cX10_loadLayout 91 = .ok (.getfield 29, 3) := by decide +kernel
theorem dX10_loadLayout_94 : decode cX10_loadLayout 94 = .ok (.iload_n 1, 1) := by decide +kernel
theorem dX10_loadLayout_95 : decode cX10_loadLayout 95 = .ok (.invokevirtual 252, 3) := by decide +kernel
theorem dX10_loadLayout_98 : decode cX10_loadLayout 98 = .ok (.aload_n 0, 1) := by decide +kernel
theorem dX10_loadLayout_99 : decode cX10_loadLayout 99 = .ok (.getfield 29, 3) := by decide +kernel
theorem dX10_loadLayout_102 : decode cX10_loadLayout 102 = .ok (.iload_n 1, 1) := by decide +kernel
theorem dX10_loadLayout_103 : decode cX10_loadLayout 103 = .ok (.invokevirtual 253, 3) := by decide +kernel
theorem dX10_loadLayout_106 : decode cX10_loadLayout 106 = .ok (.invokevirtual 227, 3) := by decide +kernel
theorem dX10_loadLayout_109 : decode cX10_loadLayout 109 = .ok (.ifCond .ne 17, 3) := by decide +kernel
theorem dX10_loadLayout_112 : decode cX10_loadLayout 112 = .ok (.aload_n 0, 1) := by decide +kernel
theorem dX10_loadLayout_113 : decode cX10_loadLayout 113 = .ok (.getfield 52, 3) := by decide +kernel
theorem dX10_loadLayout_116 : decode cX10_loadLayout 116 = .ok (.aload_n 0, 1) := by decide +kernel
theorem dX10_loadLayout_117 : decode cX10_loadLayout 117 = .ok (.getfield 56, 3) := by decide +kernel
theorem dX10_loadLayout_120 : decode cX10_loadLayout 120 = .ok (.invokevirtual 209, 3) := by decide +kernel
theorem dX10_loadLayout_123 : decode cX10_loadLayout 123 = .ok (.ldc 124, 2) := by decide +kernel
theorem dX10_loadLayout_125 : decode cX10_loadLayout 125 = .ok (.ireturn, 1) := by decide +kernel
theorem dX10_loadLayout_126 : decode cX10_loadLayout 126 = .ok (.aload_n 0, 1) := by decide +kernel
theorem dX10_loadLayout_127 : decode cX10_loadLayout 127 = .ok (.getfield 52, 3) := by decide +kernel
theorem dX10_loadLayout_130 : decode cX10_loadLayout 130 = .ok (.aload_n 2, 1) := by decide +kernel
theorem dX10_loadLayout_131 : decode cX10_loadLayout 131 = .ok (.aload_n 0, 1) := by decide +kernel
theorem dX10_loadLayout_132 : decode cX10_loadLayout 132 = .ok (.getfield 29, 3) := by decide +kernel
theorem dX10_loadLayout_135 : decode cX10_loadLayout 135 = .ok (.iload_n 1, 1) := by decide +kernel
theorem dX10_loadLayout_136 : decode cX10_loadLayout 136 = .ok (.invokevirtual 252, 3) := by decide +kernel
theorem dX10_loadLayout_139 : decode cX10_loadLayout 139 = .ok (.aload_n 0, 1) := by decide +kernel
theorem dX10_loadLayout_140 : decode cX10_loadLayout 140 = .ok (.getfield 29, 3) := by decide +kernel
theorem dX10_loadLayout_143 : decode cX10_loadLayout 143 = .ok (.iload_n 1, 1) := by decide +kernel
theorem dX10_loadLayout_144 : decode cX10_loadLayout 144 = .ok (.invokevirtual 253, 3) := by decide +kernel
theorem dX10_loadLayout_147 : decode cX10_loadLayout 147 = .ok (.invokevirtual 254, 3) := by decide +kernel
theorem dX10_loadLayout_150 : decode cX10_loadLayout 150 = .ok (.iinc 1 1, 3) := by decide +kernel
theorem dX10_loadLayout_153 : decode cX10_loadLayout 153 = .ok (.goto (-92), 3) := by decide +kernel
theorem dX10_loadLayout_156 : decode cX10_loadLayout 156 = .ok (.aload_n 0, 1) := by decide +kernel
theorem dX10_loadLayout_157 : decode cX10_loadLayout 157 = .ok (.getfield 62, 3) := by decide +kernel
theorem dX10_loadLayout_160 : decode cX10_loadLayout 160 = .ok (.aload_n 0, 1) := by decide +kernel
theorem dX10_loadLayout_161 : decode cX10_loadLayout 161 = .ok (.getfield 56, 3) := by decide +kernel
theorem dX10_loadLayout_164 : decode cX10_loadLayout 164 = .ok (.invokevirtual 125, 3) := by decide +kernel
theorem dX10_loadLayout_167 : decode cX10_loadLayout 167 = .ok (.aload_n 0, 1) := by decide +kernel
theorem dX10_loadLayout_168 : decode cX10_loadLayout 168 = .ok (.getfield 13, 3) := by decide +kernel
theorem dX10_loadLayout_171 : decode cX10_loadLayout 171 = .ok (.iconst 0, 1) := by decide +kernel
theorem dX10_loadLayout_172 : decode cX10_loadLayout 172 = .ok (.putfield 89, 3) := by decide +kernel
theorem dX10_loadLayout_175 : decode cX10_loadLayout 175 = .ok (.aload_n 0, 1) := by decide +kernel
theorem dX10_loadLayout_176 : decode cX10_loadLayout 176 = .ok (.getfield 52, 3) := by decide +kernel
theorem dX10_loadLayout_179 : decode cX10_loadLayout 179 = .ok (.getfield 218, 3) := by decide +kernel
theorem dX10_loadLayout_182 : decode cX10_loadLayout 182 = .ok (.ireturn, 1) := by decide +kernel
abbrev rmX10_loadLayout : Room := { frames := 6, cells := 0, slots := 0, locals := 240 }
abbrev sX10_loadLayout (E : EV) : List AV → AH → (Option AV → AH → Prop) → Prop := Spec E yX10_loadLayout cX10_loadLayout 3 (some .int) rmX10_loadLayout
theorem mX10_loadLayout : Mt yX10_loadLayout cX10_loadLayout 3 (some .int) 0 := ⟨k798, k1, by decide +kernel⟩
theorem vX10_loadLayout : MtV yX10_loadLayout 10 := ⟨k796, k797, by decide, (RX10, TX10, 12), rfl, rfl⟩
def PX10_loadLayout_61 (E : EV) (post : Option AV → AH → Prop) (J61 : AH → Option Nat → Int32 → Prop) (h : AH) (l0 : Option Nat) (l1 : Int32) : Prop :=
  rdP h l0 10 2 fun x1 => rdI h x1 2 3 fun x2 => (x2 ≤ l1 → rdP h l0 10 7 fun x3 => rdP h l0 10 6 fun x4 => CV (sX1_save E) x3 1 [aP x4] h (kV fun h6 => rdP h6 l0 10 0 fun x7 => wr h6 x7 9 1 (aI (0 : Int32)) fun h8 => rdP h8 l0 10 5 fun x9 => rdI h8 x9 8 5 fun x10 => post (some (aI x10)) h8)) ∧ (¬ x2 ≤ l1 → rdP h l0 10 5 fun x3 => rdP h l0 10 2 fun x4 => CV (sX2_slot E) x4 2 [aI l1] h (kI fun x5 h6 => CV (sX8_slot E) x3 8 [aI x5] h6 (kP fun x7 h8 => rdP h8 l0 10 2 fun x10 => CV (sX2_x E) x10 2 [aI l1] h8 (kI fun x11 h12 => rdP h12 l0 10 2 fun x13 => CV (sX2_y E) x13 2 [aI l1] h12 (kI fun x14 h15 => CV (sX10_fits E) l0 10 [aP x7, aI x11, aI x14] h15 (kI fun x16 h17 => (¬ x16 = 0 → rdP h17 l0 10 5 fun x18 => rdP h17 l0 10 2 fun x19 => CV (sX2_x E) x19 2 [aI l1] h17 (kI fun x20 h21 => rdP h21 l0 10 2 fun x22 => CV (sX2_y E) x22 2 [aI l1] h21 (kI fun x23 h24 => CV (sX8_add E) x18 8 [aP x7, aI x20, aI x23] h24 (kV fun h26 => J61 h26 l0 (l1 + (1 : Int32)))))) ∧ (x16 = 0 → rdP h17 l0 10 5 fun x18 => rdP h17 l0 10 6 fun x19 => CV (sX8_copy E) x18 8 [aP x19] h17 (kV fun h21 => post (some (aI (-1000002 : Int32))) h21))))))))
theorem bX10_loadLayout_61 {E : EV} {X : AX} {post : Option AV → AH → Prop} (C : Cb E X cX10_loadLayout RX10 3 rmX10_loadLayout) (D : Cr E X (some .int) rmX10_loadLayout "loadLayout" post) {J61 : AH → Option Nat → Int32 → Prop} (g61 : ∀ (h : AH) (l0 : Option Nat) (l1 : Int32), J61 h l0 l1 → Go E X 3 0 0 61 [(0, aP l0), (1, aI l1)] [] h) {h : AH} {l0 : Option Nat} {l1 : Int32} (w : PX10_loadLayout_61 E post J61 h l0 l1) : Go E X 3 0 0 61 [(0, aP l0), (1, aI l1)] [] h := by
  unfold PX10_loadLayout_61 at w
  refine r_iload_n C dX10_loadLayout_61 rfl 1 rfl ?_
  refine r_aload_n C dX10_loadLayout_62 rfl 0 rfl ?_
  refine r_getP C fcX10 (f := 2) (by decide) rfl k313 dX10_loadLayout_63 (w.mono fun x1 w => ?_)
  refine r_getI C fcX2 (f := 3) (by decide) rfl k152 dX10_loadLayout_66 (w.mono fun x2 w => ?_)
  refine r_icmp_ge C dX10_loadLayout_69 (tgt := 156) rfl (fun hc => ?_) (fun hc => ?_)
  · have w := w.1 hc
    refine r_aload_n C dX10_loadLayout_156 rfl 0 rfl ?_
    refine r_getP C fcX10 (f := 7) (by decide) rfl k318 dX10_loadLayout_157 (w.mono fun x3 w => ?_)
    refine r_aload_n C dX10_loadLayout_160 rfl 0 rfl ?_
    refine r_getP C fcX10 (f := 6) (by decide) rfl k317 dX10_loadLayout_161 (w.mono fun x4 w => ?_)
    refine r_cvV (rm' := rmX1_save) C mX1_save vX1_save k489 [aP x4] [] rfl rfl (Nat.le_of_ble_eq_true rfl) (by decide) ⟨Nat.zero_le _, Nat.zero_le _⟩ 0 0 rfl rfl dX10_loadLayout_164 w (fun h6 w => ?_)
    refine r_aload_n C dX10_loadLayout_167 rfl 0 rfl ?_
    refine r_getP C fcX10 (f := 0) (by decide) rfl k311 dX10_loadLayout_168 (w.mono fun x7 w => ?_)
    refine r_iconst (v := 0) C dX10_loadLayout_171 rfl ?_
    refine r_put C fcX9 (f := 1) (by decide) rfl rfl rfl rfl k76 dX10_loadLayout_172 (w.mono fun h8 w => ?_)
    refine r_aload_n C dX10_loadLayout_175 rfl 0 rfl ?_
    refine r_getP C fcX10 (f := 5) (by decide) rfl k316 dX10_loadLayout_176 (w.mono fun x9 w => ?_)
    refine r_getI C fcX8 (f := 5) (by decide) rfl k261 dX10_loadLayout_179 (w.mono fun x10 w => ?_)
    exact r_iret C D rfl (Nat.zero_le _) (Nat.zero_le _) dX10_loadLayout_182 w
  · have w := w.2 hc
    refine r_aload_n C dX10_loadLayout_72 rfl 0 rfl ?_
    refine r_getP C fcX10 (f := 5) (by decide) rfl k316 dX10_loadLayout_73 (w.mono fun x3 w => ?_)
    refine r_aload_n C dX10_loadLayout_76 rfl 0 rfl ?_
    refine r_getP C fcX10 (f := 2) (by decide) rfl k313 dX10_loadLayout_77 (w.mono fun x4 w => ?_)
    refine r_iload_n C dX10_loadLayout_80 rfl 1 rfl ?_
    refine r_cvI (rm' := rmX2_slot) C mX2_slot vX2_slot k818 [aI l1] [aP x3] rfl rfl (Nat.le_of_ble_eq_true rfl) (by decide) ⟨Nat.zero_le _, Nat.zero_le _⟩ 0 0 rfl rfl dX10_loadLayout_81 w (fun x5 h6 w => ?_)
    refine r_cvP (rm' := rmX8_slot) C mX8_slot vX8_slot k537 [aI x5] [] rfl rfl (Nat.le_of_ble_eq_true rfl) (by decide) ⟨Nat.zero_le _, Nat.zero_le _⟩ 0 0 rfl rfl dX10_loadLayout_84 w (fun x7 h8 w => ?_)
    refine r_astore_n C dX10_loadLayout_87 rfl (by decide) rfl ?_
    refine r_aload_n C dX10_loadLayout_88 rfl 1 rfl ?_
    refine r_aload_n C dX10_loadLayout_89 rfl 0 rfl ?_
    refine r_aload_n C dX10_loadLayout_90 rfl 1 rfl ?_
    refine r_getP C fcX10 (f := 2) (by decide) rfl k313 dX10_loadLayout_91 (w.mono fun x10 w => ?_)
    refine r_iload_n C dX10_loadLayout_94 rfl 2 rfl ?_
    refine r_cvI (rm' := rmX2_x) C mX2_x vX2_x k822 [aI l1] [aP x7, aP l0] rfl rfl (Nat.le_of_ble_eq_true rfl) (by decide) ⟨Nat.zero_le _, Nat.zero_le _⟩ 0 0 rfl rfl dX10_loadLayout_95 w (fun x11 h12 w => ?_)
    refine r_aload_n C dX10_loadLayout_98 rfl 1 rfl ?_
    refine r_getP C fcX10 (f := 2) (by decide) rfl k313 dX10_loadLayout_99 (w.mono fun x13 w => ?_)
    refine r_iload_n C dX10_loadLayout_102 rfl 2 rfl ?_
    refine r_cvI (rm' := rmX2_y) C mX2_y vX2_y k826 [aI l1] [aI x11, aP x7, aP l0] rfl rfl (Nat.le_of_ble_eq_true rfl) (by decide) ⟨Nat.zero_le _, Nat.zero_le _⟩ 0 0 rfl rfl dX10_loadLayout_103 w (fun x14 h15 w => ?_)
    refine r_cvI (rm' := rmX10_fits) C mX10_fits vX10_fits k758 [aP x7, aI x11, aI x14] [] rfl rfl (Nat.le_of_ble_eq_true rfl) (by decide) ⟨Nat.zero_le _, Nat.zero_le _⟩ 0 0 rfl rfl dX10_loadLayout_106 w (fun x16 h17 w => ?_)
    refine r_if_ne C dX10_loadLayout_109 (tgt := 126) rfl (fun hc => ?_) (fun hc => ?_)
    · have w := w.1 hc
      refine r_aload_n C dX10_loadLayout_126 rfl 1 rfl ?_
      refine r_getP C fcX10 (f := 5) (by decide) rfl k316 dX10_loadLayout_127 (w.mono fun x18 w => ?_)
      refine r_aload_n C dX10_loadLayout_130 rfl 0 rfl ?_
      refine r_aload_n C dX10_loadLayout_131 rfl 1 rfl ?_
      refine r_getP C fcX10 (f := 2) (by decide) rfl k313 dX10_loadLayout_132 (w.mono fun x19 w => ?_)
      refine r_iload_n C dX10_loadLayout_135 rfl 2 rfl ?_
      refine r_cvI (rm' := rmX2_x) C mX2_x vX2_x k822 [aI l1] [aP x7, aP x18] rfl rfl (Nat.le_of_ble_eq_true rfl) (by decide) ⟨Nat.zero_le _, Nat.zero_le _⟩ 0 0 rfl rfl dX10_loadLayout_136 w (fun x20 h21 w => ?_)
      refine r_aload_n C dX10_loadLayout_139 rfl 1 rfl ?_
      refine r_getP C fcX10 (f := 2) (by decide) rfl k313 dX10_loadLayout_140 (w.mono fun x22 w => ?_)
      refine r_iload_n C dX10_loadLayout_143 rfl 2 rfl ?_
      refine r_cvI (rm' := rmX2_y) C mX2_y vX2_y k826 [aI l1] [aI x20, aP x7, aP x18] rfl rfl (Nat.le_of_ble_eq_true rfl) (by decide) ⟨Nat.zero_le _, Nat.zero_le _⟩ 0 0 rfl rfl dX10_loadLayout_144 w (fun x23 h24 w => ?_)
      refine r_cvV (rm' := rmX8_add) C mX8_add vX8_add k766 [aP x7, aI x20, aI x23] [] rfl rfl (Nat.le_of_ble_eq_true rfl) (by decide) ⟨Nat.zero_le _, Nat.zero_le _⟩ 0 0 rfl rfl dX10_loadLayout_147 w (fun h26 w => ?_)
      refine r_iinc C dX10_loadLayout_150 2 rfl (v := 1) rfl (by decide) rfl ?_
      refine r_goto C dX10_loadLayout_153 (tgt := 61) rfl ?_
      exact r_sub [2, 0] rfl (g61 h26 l0 (l1 + (1 : Int32)) w)
    · have w := w.2 hc
      refine r_aload_n C dX10_loadLayout_112 rfl 1 rfl ?_
      refine r_getP C fcX10 (f := 5) (by decide) rfl k316 dX10_loadLayout_113 (w.mono fun x18 w => ?_)
      refine r_aload_n C dX10_loadLayout_116 rfl 1 rfl ?_
      refine r_getP C fcX10 (f := 6) (by decide) rfl k317 dX10_loadLayout_117 (w.mono fun x19 w => ?_)
      refine r_cvV (rm' := rmX8_copy) C mX8_copy vX8_copy k720 [aP x19] [] rfl rfl (Nat.le_of_ble_eq_true rfl) (by decide) ⟨Nat.zero_le _, Nat.zero_le _⟩ 0 0 rfl rfl dX10_loadLayout_120 w (fun h21 w => ?_)
      refine r_ldc (v := -1000002) C dX10_loadLayout_123 k539 ?_
      exact r_iret C D rfl (Nat.zero_le _) (Nat.zero_le _) dX10_loadLayout_125 w
theorem lpX10_loadLayout_61 {E : EV} {X : AX} {post : Option AV → AH → Prop} (C : Cb E X cX10_loadLayout RX10 3 rmX10_loadLayout) (D : Cr E X (some .int) rmX10_loadLayout "loadLayout" post) (I : Nat → AH → Option Nat → Int32 → Prop) (step : ∀ (z : Nat) (h : AH) (l0 : Option Nat) (l1 : Int32), I z h l0 l1 → PX10_loadLayout_61 E post (fun h l0 l1 => ∃ z', z' < z ∧ I z' h l0 l1) h l0 l1) : ∀ (z : Nat) (h : AH) (l0 : Option Nat) (l1 : Int32), I z h l0 l1 → Go E X 3 0 0 61 [(0, aP l0), (1, aI l1)] [] h := by
  intro z
  induction z using Nat.strongRecOn with
  | _ z ih =>
    intro h l0 l1 hI
    exact bX10_loadLayout_61 C D (fun h l0 l1 hJ => by obtain ⟨z', hz, hi⟩ := hJ; exact ih z' hz h l0 l1 hi) (step z h l0 l1 hI)
def PX10_loadLayout_0 (E : EV) (post : Option AV → AH → Prop) (J61 : AH → Option Nat → Int32 → Prop) (h : AH) (l0 : Option Nat) : Prop :=
  rdP h l0 10 2 fun x1 => rdP h l0 10 0 fun x2 => CV (sX2_read E) x1 2 [aP x2] h (kI fun x3 h4 => (¬ x3 = 0 → rdP h4 l0 10 2 fun x5 => rdI h4 x5 2 3 fun x6 => (x6 ≤ (8 : Int32) → rdP h4 l0 10 6 fun x7 => rdP h4 l0 10 5 fun x8 => CV (sX8_copy E) x7 8 [aP x8] h4 (kV fun h10 => rdP h10 l0 10 5 fun x11 => wr h10 x11 8 5 (aI (0 : Int32)) fun h12 => J61 h12 l0 (0 : Int32))) ∧ (¬ x6 ≤ (8 : Int32) → post (some (aI (-1000002 : Int32))) h4)) ∧ (x3 = 0 → rdP h4 l0 10 0 fun x5 => rdI h4 x5 9 2 fun x6 => post (some (aI ((-10 : Int32) - x6))) h4))
theorem bX10_loadLayout_0 {E : EV} {X : AX} {post : Option AV → AH → Prop} (C : Cb E X cX10_loadLayout RX10 3 rmX10_loadLayout) (D : Cr E X (some .int) rmX10_loadLayout "loadLayout" post) {J61 : AH → Option Nat → Int32 → Prop} (g61 : ∀ (h : AH) (l0 : Option Nat) (l1 : Int32), J61 h l0 l1 → Go E X 3 0 0 61 [(0, aP l0), (1, aI l1)] [] h) {h : AH} {l0 : Option Nat} (w : PX10_loadLayout_0 E post J61 h l0) : Go E X 3 0 0 0 [(0, aP l0)] [] h := by
  unfold PX10_loadLayout_0 at w
  refine r_aload_n C dX10_loadLayout_0 rfl 0 rfl ?_
  refine r_getP C fcX10 (f := 2) (by decide) rfl k313 dX10_loadLayout_1 (w.mono fun x1 w => ?_)
  refine r_aload_n C dX10_loadLayout_4 rfl 0 rfl ?_
  refine r_getP C fcX10 (f := 0) (by decide) rfl k311 dX10_loadLayout_5 (w.mono fun x2 w => ?_)
  refine r_cvI (rm' := rmX2_read) C mX2_read vX2_read k799 [aP x2] [] rfl rfl (Nat.le_of_ble_eq_true rfl) (by decide) ⟨Nat.zero_le _, Nat.zero_le _⟩ 0 0 rfl rfl dX10_loadLayout_8 w (fun x3 h4 w => ?_)
  refine r_if_ne C dX10_loadLayout_11 (tgt := 25) rfl (fun hc => ?_) (fun hc => ?_)
  · have w := w.1 hc
    refine r_aload_n C dX10_loadLayout_25 rfl 0 rfl ?_
    refine r_getP C fcX10 (f := 2) (by decide) rfl k313 dX10_loadLayout_26 (w.mono fun x5 w => ?_)
    refine r_getI C fcX2 (f := 3) (by decide) rfl k152 dX10_loadLayout_29 (w.mono fun x6 w => ?_)
    refine r_bipush (v := 8) C dX10_loadLayout_32 rfl ?_
    refine r_icmp_le C dX10_loadLayout_34 (tgt := 40) rfl (fun hc => ?_) (fun hc => ?_)
    · have w := w.1 hc
      refine r_aload_n C dX10_loadLayout_40 rfl 0 rfl ?_
      refine r_getP C fcX10 (f := 6) (by decide) rfl k317 dX10_loadLayout_41 (w.mono fun x7 w => ?_)
      refine r_aload_n C dX10_loadLayout_44 rfl 0 rfl ?_
      refine r_getP C fcX10 (f := 5) (by decide) rfl k316 dX10_loadLayout_45 (w.mono fun x8 w => ?_)
      refine r_cvV (rm' := rmX8_copy) C mX8_copy vX8_copy k720 [aP x8] [] rfl rfl (Nat.le_of_ble_eq_true rfl) (by decide) ⟨Nat.zero_le _, Nat.zero_le _⟩ 0 0 rfl rfl dX10_loadLayout_48 w (fun h10 w => ?_)
      refine r_aload_n C dX10_loadLayout_51 rfl 0 rfl ?_
      refine r_getP C fcX10 (f := 5) (by decide) rfl k316 dX10_loadLayout_52 (w.mono fun x11 w => ?_)
      refine r_iconst (v := 0) C dX10_loadLayout_55 rfl ?_
      refine r_put C fcX8 (f := 5) (by decide) rfl rfl rfl rfl k261 dX10_loadLayout_56 (w.mono fun h12 w => ?_)
      refine r_iconst (v := 0) C dX10_loadLayout_59 rfl ?_
      refine r_istore_n C dX10_loadLayout_60 rfl (by decide) rfl ?_
      exact r_sub [1, 0] rfl (g61 h12 l0 (0 : Int32) w)
    · have w := w.2 hc
      refine r_ldc (v := -1000002) C dX10_loadLayout_37 k539 ?_
      exact r_iret C D rfl (Nat.zero_le _) (Nat.zero_le _) dX10_loadLayout_39 w
  · have w := w.2 hc
    refine r_bipush (v := -10) C dX10_loadLayout_14 rfl ?_
    refine r_aload_n C dX10_loadLayout_16 rfl 0 rfl ?_
    refine r_getP C fcX10 (f := 0) (by decide) rfl k311 dX10_loadLayout_17 (w.mono fun x5 w => ?_)
    refine r_getI C fcX9 (f := 2) (by decide) rfl k80 dX10_loadLayout_20 (w.mono fun x6 w => ?_)
    refine r_isub C dX10_loadLayout_23 ?_
    exact r_iret C D rfl (Nat.zero_le _) (Nat.zero_le _) dX10_loadLayout_24 w
theorem eX10_loadLayout {E : EV} {post : Option AV → AH → Prop} {h : AH} {l0 : Option Nat} {J61 : AH → Option Nat → Int32 → Prop} (g61 : ∀ X : AX, Cb E X cX10_loadLayout RX10 3 rmX10_loadLayout → Cr E X (some .int) rmX10_loadLayout "loadLayout" post → ∀ (h : AH) (l0 : Option Nat) (l1 : Int32), J61 h l0 l1 → Go E X 3 0 0 61 [(0, aP l0), (1, aI l1)] [] h) (w : PX10_loadLayout_0 E post J61 h l0) : sX10_loadLayout E [aP l0] h post := Spec.of RX10 rfl rfl (Nat.le_of_ble_eq_true rfl) fun X C D => bX10_loadLayout_0 C D (g61 X C D) w
theorem dX10_loadShape_0 : decode cX10_loadShape 0 = .ok (.iload_n 1, 1) := by decide +kernel
theorem dX10_loadShape_1 : decode cX10_loadShape 1 = .ok (.invokestatic 98, 3) := by decide +kernel
theorem dX10_loadShape_4 : decode cX10_loadShape 4 = .ok (.ifCond .ne 6, 3) := by decide +kernel
theorem dX10_loadShape_7 : decode cX10_loadShape 7 = .ok (.ldc 88, 2) := by decide +kernel
theorem dX10_loadShape_9 : decode cX10_loadShape 9 = .ok (.ireturn, 1) := by decide +kernel
theorem dX10_loadShape_10 : decode cX10_loadShape 10 = .ok (.aload_n 0, 1) := by decide +kernel
theorem dX10_loadShape_11 : decode cX10_loadShape 11 = .ok (.getfield 22, 3) := by decide +kernel
theorem dX10_loadShape_14 : decode cX10_loadShape 14 = .ok (.aload_n 0, 1) := by decide +kernel
theorem dX10_loadShape_15 : decode cX10_loadShape 15 = .ok (.getfield 13, 3) := by decide +kernel
theorem dX10_loadShape_18 : decode cX10_loadShape 18 = .ok (.invokevirtual 102, 3) := by decide +kernel
theorem dX10_loadShape_21 : decode cX10_loadShape 21 = .ok (.ifCond .ne 14, 3) := by decide +kernel
theorem dX10_loadShape_24 : decode cX10_loadShape 24 = .ok (.bipush (-10), 2) := by decide +kernel
theorem dX10_loadShape_26 : decode cX10_loadShape 26 = .ok (.aload_n 0, 1) := by decide +kernel
theorem dX10_loadShape_27 : decode cX10_loadShape 27 = .ok (.getfield 13, 3) := by decide +kernel
theorem dX10_loadShape_30 : decode cX10_loadShape 30 = .ok (.getfield 106, 3) := by decide +kernel
theorem dX10_loadShape_33 : decode cX10_loadShape 33 = .ok (.isub, 1) := by decide +kernel
theorem dX10_loadShape_34 : decode cX10_loadShape 34 = .ok (.ireturn, 1) := by decide +kernel
theorem dX10_loadShape_35 : decode cX10_loadShape 35 = .ok (.aload_n 0, 1) := by decide +kernel
theorem dX10_loadShape_36 : decode cX10_loadShape 36 = .ok (.getfield 13, 3) := by decide +kernel
theorem dX10_loadShape_39 : decode cX10_loadShape 39 = .ok (.iconst 0, 1) := by decide +kernel
theorem dX10_loadShape_40 : decode cX10_loadShape 40 = .ok (.putfield 89, 3) := by decide +kernel
theorem dX10_loadShape_43 : decode cX10_loadShape 43 = .ok (.aload_n 0, 1) := by decide +kernel
theorem dX10_loadShape_44 : decode cX10_loadShape 44 = .ok (.aload_n 0, 1) := by decide +kernel
theorem dX10_loadShape_45 : decode cX10_loadShape 45 = .ok (.getfield 22, 3) := by decide +kernel
theorem dX10_loadShape_48 : decode cX10_loadShape 48 = .ok (.getfield 109, 3) := by decide +kernel
theorem dX10_loadShape_51 : decode cX10_loadShape 51 = .ok (.iload_n 1, 1) := by decide +kernel
theorem dX10_loadShape_52 : decode cX10_loadShape 52 = .ok (.iconst 0, 1) := by decide +kernel
theorem dX10_loadShape_53 : decode cX10_loadShape 53 = .ok (.invokevirtual 112, 3) := by decide +kernel
theorem dX10_loadShape_56 : decode cX10_loadShape 56 = .ok (.ireturn, 1) := by decide +kernel
abbrev rmX10_loadShape : Room := { frames := 6, cells := 4, slots := 50, locals := 240 }
abbrev sX10_loadShape (E : EV) : List AV → AH → (Option AV → AH → Prop) → Prop := Spec E yX10_loadShape cX10_loadShape 2 (some .int) rmX10_loadShape
theorem mX10_loadShape : Mt yX10_loadShape cX10_loadShape 2 (some .int) 1 := ⟨k365, k1, by decide +kernel⟩
theorem vX10_loadShape : MtV yX10_loadShape 10 := ⟨k363, k364, by decide, (RX10, TX10, 12), rfl, rfl⟩
def PX10_loadShape_0 (E : EV) (post : Option AV → AH → Prop) (k n : Nat) (h : AH) (l0 : Option Nat) (l1 : Int32) : Prop :=
  (k ≤ 4 ∧ n ≤ 50) ∧ CS (sX10_isSlot E) [aI l1] h (kI fun x1 h2 => (¬ x1 = 0 → rdP h2 l0 10 1 fun x3 => rdP h2 l0 10 0 fun x4 => (k ≤ 4 ∧ n ≤ 50) ∧ CV (sX7_read E) x3 7 [aP x4] h2 (kI fun x5 h6 => (¬ x5 = 0 → rdP h6 l0 10 0 fun x7 => wr h6 x7 9 1 (aI (0 : Int32)) fun h8 => rdP h8 l0 10 1 fun x9 => rdP h8 x9 7 0 fun x10 => (k + 4 ≤ 4 ∧ n + 50 ≤ 50) ∧ CV (sX10_storeTurned E) l0 10 [aP x10, aI l1, aI (0 : Int32)] h8 (kI fun x11 h12 => ((k + 4) ≤ 4 ∧ (n + 50) ≤ 50) ∧ post (some (aI x11)) h12)) ∧ (x5 = 0 → rdP h6 l0 10 0 fun x7 => rdI h6 x7 9 2 fun x8 => (k ≤ 4 ∧ n ≤ 50) ∧ post (some (aI ((-10 : Int32) - x8))) h6))) ∧ (x1 = 0 → (k ≤ 4 ∧ n ≤ 50) ∧ post (some (aI (-1000001 : Int32))) h2))
theorem bX10_loadShape_0 {E : EV} {X : AX} {post : Option AV → AH → Prop} (C : Cb E X cX10_loadShape RX10 2 rmX10_loadShape) (D : Cr E X (some .int) rmX10_loadShape "loadShape" post) {k n : Nat} {h : AH} {l0 : Option Nat} {l1 : Int32} (w : PX10_loadShape_0 E post k n h l0 l1) : Go E X 2 k n 0 [(0, aP l0), (1, aI l1)] [] h := by
  unfold PX10_loadShape_0 at w
  refine r_iload_n C dX10_loadShape_0 rfl 1 rfl ?_
  refine r_csI (rm' := rmX10_isSlot) C mX10_isSlot vX10_isSlot k366 [aI l1] [] rfl rfl (Nat.le_of_ble_eq_true rfl) (by decide) w.1 k n rfl rfl dX10_loadShape_1 w.2 (fun x1 h2 w => ?_)
  refine r_if_ne C dX10_loadShape_4 (tgt := 10) rfl (fun hc => ?_) (fun hc => ?_)
  · have w := w.1 hc
    refine r_aload_n C dX10_loadShape_10 rfl 0 rfl ?_
    refine r_getP C fcX10 (f := 1) (by decide) rfl k312 dX10_loadShape_11 (w.mono fun x3 w => ?_)
    refine r_aload_n C dX10_loadShape_14 rfl 0 rfl ?_
    refine r_getP C fcX10 (f := 0) (by decide) rfl k311 dX10_loadShape_15 (w.mono fun x4 w => ?_)
    refine r_cvI (rm' := rmX7_read) C mX7_read vX7_read k369 [aP x4] [] rfl rfl (Nat.le_of_ble_eq_true rfl) (by decide) w.1 k n rfl rfl dX10_loadShape_18 w.2 (fun x5 h6 w => ?_)
    refine r_if_ne C dX10_loadShape_21 (tgt := 35) rfl (fun hc => ?_) (fun hc => ?_)
    · have w := w.1 hc
      refine r_aload_n C dX10_loadShape_35 rfl 0 rfl ?_
      refine r_getP C fcX10 (f := 0) (by decide) rfl k311 dX10_loadShape_36 (w.mono fun x7 w => ?_)
      refine r_iconst (v := 0) C dX10_loadShape_39 rfl ?_
      refine r_put C fcX9 (f := 1) (by decide) rfl rfl rfl rfl k76 dX10_loadShape_40 (w.mono fun h8 w => ?_)
      refine r_aload_n C dX10_loadShape_43 rfl 0 rfl ?_
      refine r_aload_n C dX10_loadShape_44 rfl 0 rfl ?_
      refine r_getP C fcX10 (f := 1) (by decide) rfl k312 dX10_loadShape_45 (w.mono fun x9 w => ?_)
      refine r_getP C fcX7 (f := 0) (by decide) rfl k135 dX10_loadShape_48 (w.mono fun x10 w => ?_)
      refine r_iload_n C dX10_loadShape_51 rfl 1 rfl ?_
      refine r_iconst (v := 0) C dX10_loadShape_52 rfl ?_
      refine r_cvI (rm' := rmX10_storeTurned) C mX10_storeTurned vX10_storeTurned k462 [aP x10, aI l1, aI (0 : Int32)] [] rfl rfl (Nat.le_of_ble_eq_true rfl) (by decide) w.1 (k + 4) (n + 50) rfl rfl dX10_loadShape_53 w.2 (fun x11 h12 w => ?_)
      exact r_iret C D rfl w.1.1 w.1.2 dX10_loadShape_56 w.2
    · have w := w.2 hc
      refine r_bipush (v := -10) C dX10_loadShape_24 rfl ?_
      refine r_aload_n C dX10_loadShape_26 rfl 0 rfl ?_
      refine r_getP C fcX10 (f := 0) (by decide) rfl k311 dX10_loadShape_27 (w.mono fun x7 w => ?_)
      refine r_getI C fcX9 (f := 2) (by decide) rfl k80 dX10_loadShape_30 (w.mono fun x8 w => ?_)
      refine r_isub C dX10_loadShape_33 ?_
      exact r_iret C D rfl w.1.1 w.1.2 dX10_loadShape_34 w.2
  · have w := w.2 hc
    refine r_ldc (v := -1000001) C dX10_loadShape_7 k352 ?_
    exact r_iret C D rfl w.1.1 w.1.2 dX10_loadShape_9 w.2
theorem eX10_loadShape {E : EV} {post : Option AV → AH → Prop} {h : AH} {l0 : Option Nat} {l1 : Int32} (w : PX10_loadShape_0 E post 0 0 h l0 l1) : sX10_loadShape E [aP l0, aI l1] h post := Spec.of RX10 rfl rfl (Nat.le_of_ble_eq_true rfl) fun X C D => bX10_loadShape_0 C D w
theorem dX10_packedDoubleArea_0 : decode cX10_packedDoubleArea 0 = .ok (.iconst 0, 1) := by decide +kernel
theorem dX10_packedDoubleArea_1 : decode cX10_packedDoubleArea 1 = .ok (.istore_n 1, 1) := by decide +kernel
theorem dX10_packedDoubleArea_2 : decode cX10_packedDoubleArea 2 = .ok (.iconst 0, 1) := by decide +kernel
theorem dX10_packedDoubleArea_3 : decode cX10_packedDoubleArea 3 = .ok (.istore_n 2, 1) := by decide +kernel
theorem dX10_packedDoubleArea_4 : decode cX10_packedDoubleArea 4 = .ok (.iload_n 2, 1) := by decide +kernel
theorem dX10_packedDoubleArea_5 : decode cX10_packedDoubleArea 5 = .ok (.aload_n 0, 1) := by decide +kernel
theorem dX10_packedDoubleArea_6 : decode cX10_packedDoubleArea 6 = .ok (.getfield 52, 3) := by decide +kernel
theorem dX10_packedDoubleArea_9 : decode cX10_packedDoubleArea 9 = .ok (.getfield 218, 3) := by decide +kernel
theorem dX10_packedDoubleArea_12 : decode cX10_packedDoubleArea 12 = .ok (.if_icmp .ge 57, 3) := by decide +kernel
theorem dX10_packedDoubleArea_15 : decode cX10_packedDoubleArea 15 = .ok (.aload_n 0, 1) := by decide +kernel
theorem dX10_packedDoubleArea_16 : decode cX10_packedDoubleArea 16 = .ok (.getfield 52, 3) := by decide +kernel
theorem dX10_packedDoubleArea_19 : decode cX10_packedDoubleArea 19 = .ok (.iload_n 2, 1) := by decide +kernel
theorem dX10_packedDoubleArea_20 : decode cX10_packedDoubleArea 20 = .ok (.invokevirtual 261, 3) := by decide +kernel
theorem dX10_packedDoubleArea_23 : decode cX10_packedDoubleArea 23 = .ok (.astore_n 3, 1) := by decide +kernel
theorem dX10_packedDoubleArea_24 : decode cX10_packedDoubleArea 24 = .ok (.iconst 0, 1) := by decide +kernel
theorem dX10_packedDoubleArea_25 : decode cX10_packedDoubleArea 25 = .ok (.istore 4, 2) := by decide +kernel
theorem dX10_packedDoubleArea_27 : decode cX10_packedDoubleArea 27 = .ok (.iload 4, 2) := by decide +kernel
theorem dX10_packedDoubleArea_29 : decode cX10_packedDoubleArea 29 = .ok (.aload_n 3, 1) := by decide +kernel
theorem dX10_packedDoubleArea_30 : decode cX10_packedDoubleArea 30 = .ok (.getfield 136, 3) := by decide +kernel
theorem dX10_packedDoubleArea_33 : decode cX10_packedDoubleArea 33 = .ok (.if_icmp .ge 30, 3) := by decide +kernel
theorem dX10_packedDoubleArea_36 : decode cX10_packedDoubleArea 36 = .ok (.aload_n 3, 1) := by decide +kernel
theorem dX10_packedDoubleArea_37 : decode cX10_packedDoubleArea 37 = .ok (.iload 4, 2) := by decide +kernel
theorem dX10_packedDoubleArea_39 : decode cX10_packedDoubleArea 39 = .ok (.iconst 0, 1) := by decide +kernel
theorem dX10_packedDoubleArea_40 : decode cX10_packedDoubleArea 40 = .ok (.aload_n 0, 1) := by decide +kernel
theorem dX10_packedDoubleArea_41 : decode cX10_packedDoubleArea 41 = .ok (.getfield 69, 3) := by decide +kernel
theorem dX10_packedDoubleArea_44 : decode cX10_packedDoubleArea 44 = .ok (.invokevirtual 143, 3) := by decide +kernel
theorem dX10_packedDoubleArea_47 : decode cX10_packedDoubleArea 47 = .ok (.iload_n 1, 1) := by decide +kernel
theorem dX10_packedDoubleArea_48 : decode cX10_packedDoubleArea 48 = .ok (.aload_n 0, 1) := by decide +kernel
theorem dX10_packedDoubleArea_49 : decode cX10_packedDoubleArea 49 = .ok (.getfield 69, 3) := by decide +kernel
theorem dX10_packedDoubleArea_52 : decode cX10_packedDoubleArea 52 = .ok (.invokevirtual 147, 3) := by decide +kernel
theorem dX10_packedDoubleArea_55 : decode cX10_packedDoubleArea 55 = .ok (.iadd, 1) := by decide +kernel
theorem dX10_packedDoubleArea_56 : decode cX10_packedDoubleArea 56 = .ok (.istore_n 1, 1) := by decide +kernel
theorem dX10_packedDoubleArea_57 : decode cX10_packedDoubleArea 57 = .ok (.iinc 4 1, 3) := by decide +kernel
theorem dX10_packedDoubleArea_60 : decode cX10_packedDoubleArea 60 = .ok (.goto (-33), 3) := by decide +kernel
theorem dX10_packedDoubleArea_63 : decode cX10_packedDoubleArea 63 = .ok (.iinc 2 1, 3) := by decide +kernel
theorem dX10_packedDoubleArea_66 : decode cX10_packedDoubleArea 66 = .ok (.goto (-62), 3) := by decide +kernel
theorem dX10_packedDoubleArea_69 : decode cX10_packedDoubleArea 69 = .ok (.iload_n 1, 1) := by decide +kernel
theorem dX10_packedDoubleArea_70 : decode cX10_packedDoubleArea 70 = .ok (.ireturn, 1) := by decide +kernel
abbrev rmX10_packedDoubleArea : Room := { frames := 3, cells := 0, slots := 0, locals := 120 }
abbrev sX10_packedDoubleArea (E : EV) : List AV → AH → (Option AV → AH → Prop) → Prop := Spec E yX10_packedDoubleArea cX10_packedDoubleArea 5 (some .int) rmX10_packedDoubleArea
theorem mX10_packedDoubleArea : Mt yX10_packedDoubleArea cX10_packedDoubleArea 5 (some .int) 0 := ⟨k914, k1, by decide +kernel⟩
theorem vX10_packedDoubleArea : MtV yX10_packedDoubleArea 10 := ⟨k912, k913, by decide, (RX10, TX10, 12), rfl, rfl⟩
def PX10_packedDoubleArea_27 (E : EV) (post : Option AV → AH → Prop) (J4 : AH → Option Nat → Int32 → Int32 → Prop) (J27 : AH → Option Nat → Int32 → Int32 → Option Nat → Int32 → Prop) (h : AH) (l0 : Option Nat) (l1 : Int32) (l2 : Int32) (l3 : Option Nat) (l4 : Int32) : Prop :=
  rdI h l3 6 3 fun x1 => (x1 ≤ l4 → J4 h l0 l1 (l2 + (1 : Int32))) ∧ (¬ x1 ≤ l4 → rdP h l0 10 8 fun x2 => CV (sX6_copyPiece E) l3 6 [aI l4, aI (0 : Int32), aP x2] h (kV fun h4 => rdP h4 l0 10 8 fun x5 => CV (sX5_areaTwice E) x5 5 [] h4 (kI fun x6 h7 => ∀ v8, v8 = (l1 + x6) → J27 h7 l0 v8 l2 l3 (l4 + (1 : Int32)))))
theorem bX10_packedDoubleArea_27 {E : EV} {X : AX} {post : Option AV → AH → Prop} (C : Cb E X cX10_packedDoubleArea RX10 5 rmX10_packedDoubleArea) (D : Cr E X (some .int) rmX10_packedDoubleArea "packedDoubleArea" post) {J4 : AH → Option Nat → Int32 → Int32 → Prop} (g4 : ∀ (h : AH) (l0 : Option Nat) (l1 : Int32) (l2 : Int32), J4 h l0 l1 l2 → Go E X 5 0 0 4 [(0, aP l0), (1, aI l1), (2, aI l2)] [] h) {J27 : AH → Option Nat → Int32 → Int32 → Option Nat → Int32 → Prop} (g27 : ∀ (h : AH) (l0 : Option Nat) (l1 : Int32) (l2 : Int32) (l3 : Option Nat) (l4 : Int32), J27 h l0 l1 l2 l3 l4 → Go E X 5 0 0 27 [(0, aP l0), (1, aI l1), (2, aI l2), (3, aP l3), (4, aI l4)] [] h) {h : AH} {l0 : Option Nat} {l1 : Int32} {l2 : Int32} {l3 : Option Nat} {l4 : Int32} (w : PX10_packedDoubleArea_27 E post J4 J27 h l0 l1 l2 l3 l4) : Go E X 5 0 0 27 [(0, aP l0), (1, aI l1), (2, aI l2), (3, aP l3), (4, aI l4)] [] h := by
  unfold PX10_packedDoubleArea_27 at w
  refine r_iload C dX10_packedDoubleArea_27 4 rfl ?_
  refine r_aload_n C dX10_packedDoubleArea_29 rfl 3 rfl ?_
  refine r_getI C fcX6 (f := 3) (by decide) rfl k34 dX10_packedDoubleArea_30 (w.mono fun x1 w => ?_)
  refine r_icmp_ge C dX10_packedDoubleArea_33 (tgt := 63) rfl (fun hc => ?_) (fun hc => ?_)
  · have w := w.1 hc
    refine r_iinc C dX10_packedDoubleArea_63 2 rfl (v := 1) rfl (by decide) rfl ?_
    refine r_goto C dX10_packedDoubleArea_66 (tgt := 4) rfl ?_
    exact r_sub [1, 2, 0] rfl (g4 h l0 l1 (l2 + (1 : Int32)) w)
  · have w := w.2 hc
    refine r_aload_n C dX10_packedDoubleArea_36 rfl 3 rfl ?_
    refine r_iload C dX10_packedDoubleArea_37 4 rfl ?_
    refine r_iconst (v := 0) C dX10_packedDoubleArea_39 rfl ?_
    refine r_aload_n C dX10_packedDoubleArea_40 rfl 0 rfl ?_
    refine r_getP C fcX10 (f := 8) (by decide) rfl k319 dX10_packedDoubleArea_41 (w.mono fun x2 w => ?_)
    refine r_cvV (rm' := rmX6_copyPiece) C mX6_copyPiece vX6_copyPiece k556 [aI l4, aI (0 : Int32), aP x2] [] rfl rfl (Nat.le_of_ble_eq_true rfl) (by decide) ⟨Nat.zero_le _, Nat.zero_le _⟩ 0 0 rfl rfl dX10_packedDoubleArea_44 w (fun h4 w => ?_)
    refine r_iload_n C dX10_packedDoubleArea_47 rfl 1 rfl ?_
    refine r_aload_n C dX10_packedDoubleArea_48 rfl 0 rfl ?_
    refine r_getP C fcX10 (f := 8) (by decide) rfl k319 dX10_packedDoubleArea_49 (w.mono fun x5 w => ?_)
    refine r_cvI (rm' := rmX5_areaTwice) C mX5_areaTwice vX5_areaTwice k562 [] [aI l1] rfl rfl (Nat.le_of_ble_eq_true rfl) (by decide) ⟨Nat.zero_le _, Nat.zero_le _⟩ 0 0 rfl rfl dX10_packedDoubleArea_52 w (fun x6 h7 w => ?_)
    refine r_iadd C dX10_packedDoubleArea_55 ?_
    refine r_istore_n C dX10_packedDoubleArea_56 rfl (by decide) rfl ?_
    have w := w _ rfl
    skip
    refine r_iinc C dX10_packedDoubleArea_57 4 rfl (v := 1) rfl (by decide) rfl ?_
    refine r_goto C dX10_packedDoubleArea_60 (tgt := 27) rfl ?_
    exact r_sub [2, 1, 3, 4, 0] rfl (g27 h7 l0 (l1 + x6) l2 l3 (l4 + (1 : Int32)) w)
theorem lpX10_packedDoubleArea_27 {E : EV} {X : AX} {post : Option AV → AH → Prop} (C : Cb E X cX10_packedDoubleArea RX10 5 rmX10_packedDoubleArea) (D : Cr E X (some .int) rmX10_packedDoubleArea "packedDoubleArea" post) {J4 : AH → Option Nat → Int32 → Int32 → Prop} (g4 : ∀ (h : AH) (l0 : Option Nat) (l1 : Int32) (l2 : Int32), J4 h l0 l1 l2 → Go E X 5 0 0 4 [(0, aP l0), (1, aI l1), (2, aI l2)] [] h) (I : Nat → AH → Option Nat → Int32 → Int32 → Option Nat → Int32 → Prop) (step : ∀ (z : Nat) (h : AH) (l0 : Option Nat) (l1 : Int32) (l2 : Int32) (l3 : Option Nat) (l4 : Int32), I z h l0 l1 l2 l3 l4 → PX10_packedDoubleArea_27 E post J4 (fun h l0 l1 l2 l3 l4 => ∃ z', z' < z ∧ I z' h l0 l1 l2 l3 l4) h l0 l1 l2 l3 l4) : ∀ (z : Nat) (h : AH) (l0 : Option Nat) (l1 : Int32) (l2 : Int32) (l3 : Option Nat) (l4 : Int32), I z h l0 l1 l2 l3 l4 → Go E X 5 0 0 27 [(0, aP l0), (1, aI l1), (2, aI l2), (3, aP l3), (4, aI l4)] [] h := by
  intro z
  induction z using Nat.strongRecOn with
  | _ z ih =>
    intro h l0 l1 l2 l3 l4 hI
    exact bX10_packedDoubleArea_27 C D g4 (fun h l0 l1 l2 l3 l4 hJ => by obtain ⟨z', hz, hi⟩ := hJ; exact ih z' hz h l0 l1 l2 l3 l4 hi) (step z h l0 l1 l2 l3 l4 hI)
def PX10_packedDoubleArea_4 (E : EV) (post : Option AV → AH → Prop) (J27 : AH → Option Nat → Int32 → Int32 → Option Nat → Int32 → Prop) (h : AH) (l0 : Option Nat) (l1 : Int32) (l2 : Int32) : Prop :=
  rdP h l0 10 5 fun x1 => rdI h x1 8 5 fun x2 => (x2 ≤ l2 → post (some (aI l1)) h) ∧ (¬ x2 ≤ l2 → rdP h l0 10 5 fun x3 => CV (sX8_shape E) x3 8 [aI l2] h (kP fun x4 h5 => J27 h5 l0 l1 l2 x4 (0 : Int32)))
theorem bX10_packedDoubleArea_4 {E : EV} {X : AX} {post : Option AV → AH → Prop} (C : Cb E X cX10_packedDoubleArea RX10 5 rmX10_packedDoubleArea) (D : Cr E X (some .int) rmX10_packedDoubleArea "packedDoubleArea" post) {J27 : AH → Option Nat → Int32 → Int32 → Option Nat → Int32 → Prop} (g27 : ∀ (h : AH) (l0 : Option Nat) (l1 : Int32) (l2 : Int32) (l3 : Option Nat) (l4 : Int32), J27 h l0 l1 l2 l3 l4 → Go E X 5 0 0 27 [(0, aP l0), (1, aI l1), (2, aI l2), (3, aP l3), (4, aI l4)] [] h) {h : AH} {l0 : Option Nat} {l1 : Int32} {l2 : Int32} (w : PX10_packedDoubleArea_4 E post J27 h l0 l1 l2) : Go E X 5 0 0 4 [(0, aP l0), (1, aI l1), (2, aI l2)] [] h := by
  unfold PX10_packedDoubleArea_4 at w
  refine r_iload_n C dX10_packedDoubleArea_4 rfl 2 rfl ?_
  refine r_aload_n C dX10_packedDoubleArea_5 rfl 0 rfl ?_
  refine r_getP C fcX10 (f := 5) (by decide) rfl k316 dX10_packedDoubleArea_6 (w.mono fun x1 w => ?_)
  refine r_getI C fcX8 (f := 5) (by decide) rfl k261 dX10_packedDoubleArea_9 (w.mono fun x2 w => ?_)
  refine r_icmp_ge C dX10_packedDoubleArea_12 (tgt := 69) rfl (fun hc => ?_) (fun hc => ?_)
  · have w := w.1 hc
    refine r_iload_n C dX10_packedDoubleArea_69 rfl 1 rfl ?_
    exact r_iret C D rfl (Nat.zero_le _) (Nat.zero_le _) dX10_packedDoubleArea_70 w
  · have w := w.2 hc
    refine r_aload_n C dX10_packedDoubleArea_15 rfl 0 rfl ?_
    refine r_getP C fcX10 (f := 5) (by decide) rfl k316 dX10_packedDoubleArea_16 (w.mono fun x3 w => ?_)
    refine r_iload_n C dX10_packedDoubleArea_19 rfl 2 rfl ?_
    refine r_cvP (rm' := rmX8_shape) C mX8_shape vX8_shape k725 [aI l2] [] rfl rfl (Nat.le_of_ble_eq_true rfl) (by decide) ⟨Nat.zero_le _, Nat.zero_le _⟩ 0 0 rfl rfl dX10_packedDoubleArea_20 w (fun x4 h5 w => ?_)
    refine r_astore_n C dX10_packedDoubleArea_23 rfl (by decide) rfl ?_
    refine r_iconst (v := 0) C dX10_packedDoubleArea_24 rfl ?_
    refine r_istore C dX10_packedDoubleArea_25 (by decide) rfl ?_
    exact r_sub [2, 3, 4, 1, 0] rfl (g27 h5 l0 l1 l2 x4 (0 : Int32) w)
def PX10_packedDoubleArea_0 (E : EV) (post : Option AV → AH → Prop) (J4 : AH → Option Nat → Int32 → Int32 → Prop) (h : AH) (l0 : Option Nat) : Prop :=
  J4 h l0 (0 : Int32) (0 : Int32)
theorem bX10_packedDoubleArea_0 {E : EV} {X : AX} {post : Option AV → AH → Prop} (C : Cb E X cX10_packedDoubleArea RX10 5 rmX10_packedDoubleArea) (D : Cr E X (some .int) rmX10_packedDoubleArea "packedDoubleArea" post) {J4 : AH → Option Nat → Int32 → Int32 → Prop} (g4 : ∀ (h : AH) (l0 : Option Nat) (l1 : Int32) (l2 : Int32), J4 h l0 l1 l2 → Go E X 5 0 0 4 [(0, aP l0), (1, aI l1), (2, aI l2)] [] h) {h : AH} {l0 : Option Nat} (w : PX10_packedDoubleArea_0 E post J4 h l0) : Go E X 5 0 0 0 [(0, aP l0)] [] h := by
  unfold PX10_packedDoubleArea_0 at w
  refine r_iconst (v := 0) C dX10_packedDoubleArea_0 rfl ?_
  refine r_istore_n C dX10_packedDoubleArea_1 rfl (by decide) rfl ?_
  refine r_iconst (v := 0) C dX10_packedDoubleArea_2 rfl ?_
  refine r_istore_n C dX10_packedDoubleArea_3 rfl (by decide) rfl ?_
  exact r_sub [2, 1, 0] rfl (g4 h l0 (0 : Int32) (0 : Int32) w)
theorem eX10_packedDoubleArea {E : EV} {post : Option AV → AH → Prop} {h : AH} {l0 : Option Nat} {J4 : AH → Option Nat → Int32 → Int32 → Prop} (g4 : ∀ X : AX, Cb E X cX10_packedDoubleArea RX10 5 rmX10_packedDoubleArea → Cr E X (some .int) rmX10_packedDoubleArea "packedDoubleArea" post → ∀ (h : AH) (l0 : Option Nat) (l1 : Int32) (l2 : Int32), J4 h l0 l1 l2 → Go E X 5 0 0 4 [(0, aP l0), (1, aI l1), (2, aI l2)] [] h) (w : PX10_packedDoubleArea_0 E post J4 h l0) : sX10_packedDoubleArea E [aP l0] h post := Spec.of RX10 rfl rfl (Nat.le_of_ble_eq_true rfl) fun X C D => bX10_packedDoubleArea_0 C D (g4 X C D) w
theorem dX10_pieceCount_0 : decode cX10_pieceCount 0 = .ok (.iload_n 1, 1) := by decide +kernel
theorem dX10_pieceCount_1 : decode cX10_pieceCount 1 = .ok (.invokestatic 98, 3) := by decide +kernel
theorem dX10_pieceCount_4 : decode cX10_pieceCount 4 = .ok (.ifCond .eq 17, 3) := by decide +kernel
theorem dX10_pieceCount_7 : decode cX10_pieceCount 7 = .ok (.aload_n 0, 1) := by decide +kernel
theorem dX10_pieceCount_8 : decode cX10_pieceCount 8 = .ok (.getfield 52, 3) := by decide +kernel
theorem dX10_pieceCount_11 : decode cX10_pieceCount 11 = .ok (.iload_n 1, 1) := by decide +kernel
theorem dX10_pieceCount_12 : decode cX10_pieceCount 12 = .ok (.invokevirtual 116, 3) := by decide +kernel
theorem dX10_pieceCount_15 : decode cX10_pieceCount 15 = .ok (.getfield 136, 3) := by decide +kernel
theorem dX10_pieceCount_18 : decode cX10_pieceCount 18 = .ok (.goto 5, 3) := by decide +kernel
theorem dX10_pieceCount_21 : decode cX10_pieceCount 21 = .ok (.ldc 88, 2) := by decide +kernel
theorem dX10_pieceCount_23 : decode cX10_pieceCount 23 = .ok (.ireturn, 1) := by decide +kernel
abbrev rmX10_pieceCount : Room := { frames := 1, cells := 0, slots := 0, locals := 40 }
abbrev sX10_pieceCount (E : EV) : List AV → AH → (Option AV → AH → Prop) → Prop := Spec E yX10_pieceCount cX10_pieceCount 2 (some .int) rmX10_pieceCount
theorem mX10_pieceCount : Mt yX10_pieceCount cX10_pieceCount 2 (some .int) 1 := ⟨k547, k1, by decide +kernel⟩
theorem vX10_pieceCount : MtV yX10_pieceCount 10 := ⟨k545, k546, by decide, (RX10, TX10, 12), rfl, rfl⟩
def PX10_pieceCount_0 (E : EV) (post : Option AV → AH → Prop) (h : AH) (l0 : Option Nat) (l1 : Int32) : Prop :=
  CS (sX10_isSlot E) [aI l1] h (kI fun x1 h2 => (x1 = 0 → post (some (aI (-1000001 : Int32))) h2) ∧ (¬ x1 = 0 → rdP h2 l0 10 5 fun x3 => CV (sX8_slot E) x3 8 [aI l1] h2 (kP fun x4 h5 => rdI h5 x4 6 3 fun x6 => post (some (aI x6)) h5)))
theorem bX10_pieceCount_0 {E : EV} {X : AX} {post : Option AV → AH → Prop} (C : Cb E X cX10_pieceCount RX10 2 rmX10_pieceCount) (D : Cr E X (some .int) rmX10_pieceCount "pieceCount" post) {h : AH} {l0 : Option Nat} {l1 : Int32} (w : PX10_pieceCount_0 E post h l0 l1) : Go E X 2 0 0 0 [(0, aP l0), (1, aI l1)] [] h := by
  unfold PX10_pieceCount_0 at w
  refine r_iload_n C dX10_pieceCount_0 rfl 1 rfl ?_
  refine r_csI (rm' := rmX10_isSlot) C mX10_isSlot vX10_isSlot k366 [aI l1] [] rfl rfl (Nat.le_of_ble_eq_true rfl) (by decide) ⟨Nat.zero_le _, Nat.zero_le _⟩ 0 0 rfl rfl dX10_pieceCount_1 w (fun x1 h2 w => ?_)
  refine r_if_eq C dX10_pieceCount_4 (tgt := 21) rfl (fun hc => ?_) (fun hc => ?_)
  · have w := w.1 hc
    refine r_ldc (v := -1000001) C dX10_pieceCount_21 k352 ?_
    exact r_iret C D rfl (Nat.zero_le _) (Nat.zero_le _) dX10_pieceCount_23 w
  · have w := w.2 hc
    refine r_aload_n C dX10_pieceCount_7 rfl 0 rfl ?_
    refine r_getP C fcX10 (f := 5) (by decide) rfl k316 dX10_pieceCount_8 (w.mono fun x3 w => ?_)
    refine r_iload_n C dX10_pieceCount_11 rfl 1 rfl ?_
    refine r_cvP (rm' := rmX8_slot) C mX8_slot vX8_slot k537 [aI l1] [] rfl rfl (Nat.le_of_ble_eq_true rfl) (by decide) ⟨Nat.zero_le _, Nat.zero_le _⟩ 0 0 rfl rfl dX10_pieceCount_12 w (fun x4 h5 w => ?_)
    refine r_getI C fcX6 (f := 3) (by decide) rfl k34 dX10_pieceCount_15 (w.mono fun x6 w => ?_)
    refine r_goto C dX10_pieceCount_18 (tgt := 23) rfl ?_
    exact r_iret C D rfl (Nat.zero_le _) (Nat.zero_le _) dX10_pieceCount_23 w
theorem eX10_pieceCount {E : EV} {post : Option AV → AH → Prop} {h : AH} {l0 : Option Nat} {l1 : Int32} (w : PX10_pieceCount_0 E post h l0 l1) : sX10_pieceCount E [aP l0, aI l1] h post := Spec.of RX10 rfl rfl (Nat.le_of_ble_eq_true rfl) fun X C D => bX10_pieceCount_0 C D w
theorem dX10_place_0 : decode cX10_place 0 = .ok (.iload_n 1, 1) := by decide +kernel
theorem dX10_place_1 : decode cX10_place 1 = .ok (.invokestatic 98, 3) := by decide +kernel
theorem dX10_place_4 : decode cX10_place 4 = .ok (.ifCond .eq 17, 3) := by decide +kernel
theorem dX10_place_7 : decode cX10_place 7 = .ok (.iload_n 2, 1) := by decide +kernel
theorem dX10_place_8 : decode cX10_place 8 = .ok (.invokestatic 185, 3) := by decide +kernel
theorem dX10_place_11 : decode cX10_place 11 = .ok (.ifCond .eq 10, 3) := by decide +kernel
theorem dX10_place_14 : decode cX10_place 14 = .ok (.iload_n 3, 1) := by decide +kernel
theorem dX10_place_15 : decode cX10_place 15 = .ok (.invokestatic 185, 3) := by decide +kernel
theorem dX10_place_18 : decode cX10_place 18 = .ok (.ifCond .ne 6, 3) := by decide +kernel
theorem dX10_place_21 : decode cX10_place 21 = .ok (.ldc 88, 2) := by decide +kernel
theorem dX10_place_23 : decode cX10_place 23 = .ok (.ireturn, 1) := by decide +kernel
theorem dX10_place_24 : decode cX10_place 24 = .ok (.aload_n 0, 1) := by decide +kernel
theorem dX10_place_25 : decode cX10_place 25 = .ok (.aload_n 0, 1) := by decide +kernel
theorem dX10_place_26 : decode cX10_place 26 = .ok (.getfield 52, 3) := by decide +kernel
theorem dX10_place_29 : decode cX10_place 29 = .ok (.iload_n 1, 1) := by decide +kernel
theorem dX10_place_30 : decode cX10_place 30 = .ok (.invokevirtual 116, 3) := by decide +kernel
theorem dX10_place_33 : decode cX10_place 33 = .ok (.iload_n 2, 1) := by decide +kernel
theorem dX10_place_34 : decode cX10_place 34 = .ok (.iload_n 3, 1) := by decide +kernel
theorem dX10_place_35 : decode cX10_place 35 = .ok (.invokevirtual 227, 3) := by decide +kernel
theorem dX10_place_38 : decode cX10_place 38 = .ok (.ifCond .ne 6, 3) := by decide +kernel
theorem dX10_place_41 : decode cX10_place 41 = .ok (.ldc 124, 2) := by decide +kernel
theorem dX10_place_43 : decode cX10_place 43 = .ok (.ireturn, 1) := by decide +kernel
theorem dX10_place_44 : decode cX10_place 44 = .ok (.aload_n 0, 1) := by decide +kernel
theorem dX10_place_45 : decode cX10_place 45 = .ok (.getfield 52, 3) := by decide +kernel
theorem dX10_place_48 : decode cX10_place 48 = .ok (.getfield 218, 3) := by decide +kernel
theorem dX10_place_51 : decode cX10_place 51 = .ok (.bipush 8, 2) := by decide +kernel
theorem dX10_place_53 : decode cX10_place 53 = .ok (.if_icmp .lt 6, 3) := by decide +kernel
theorem dX10_place_56 : decode cX10_place 56 = .ok (.ldc 93, 2) := by decide +kernel
theorem dX10_place_58 : decode cX10_place 58 = .ok (.ireturn, 1) := by decide +kernel
theorem dX10_place_59 : decode cX10_place 59 = .ok (.aload_n 0, 1) := by decide +kernel
theorem dX10_place_60 : decode cX10_place 60 = .ok (.aload_n 0, 1) := by decide +kernel
theorem dX10_place_61 : decode cX10_place 61 = .ok (.getfield 52, 3) := by decide +kernel
theorem dX10_place_64 : decode cX10_place 64 = .ok (.iload_n 1, 1) := by decide +kernel
theorem dX10_place_65 : decode cX10_place 65 = .ok (.invokevirtual 116, 3) := by decide +kernel
theorem dX10_place_68 : decode cX10_place 68 = .ok (.iload_n 2, 1) := by decide +kernel
theorem dX10_place_69 : decode cX10_place 69 = .ok (.iload_n 3, 1) := by decide +kernel
theorem dX10_place_70 : decode cX10_place 70 = .ok (.invokevirtual 231, 3) := by decide +kernel
theorem dX10_place_73 : decode cX10_place 73 = .ok (.ireturn, 1) := by decide +kernel
abbrev rmX10_place : Room := { frames := 6, cells := 0, slots := 0, locals := 240 }
abbrev sX10_place (E : EV) : List AV → AH → (Option AV → AH → Prop) → Prop := Spec E yX10_place cX10_place 4 (some .int) rmX10_place
theorem mX10_place : Mt yX10_place cX10_place 4 (some .int) 3 := ⟨k757, k1, by decide +kernel⟩
theorem vX10_place : MtV yX10_place 10 := ⟨k755, k756, by decide, (RX10, TX10, 12), rfl, rfl⟩
def PX10_place_0 (E : EV) (post : Option AV → AH → Prop) (h : AH) (l0 : Option Nat) (l1 : Int32) (l2 : Int32) (l3 : Int32) : Prop :=
  CS (sX10_isSlot E) [aI l1] h (kI fun x1 h2 => (x1 = 0 → post (some (aI (-1000001 : Int32))) h2) ∧ (¬ x1 = 0 → CS (sX10_isNear E) [aI l2] h2 (kI fun x3 h4 => (x3 = 0 → post (some (aI (-1000001 : Int32))) h4) ∧ (¬ x3 = 0 → CS (sX10_isNear E) [aI l3] h4 (kI fun x5 h6 => (¬ x5 = 0 → rdP h6 l0 10 5 fun x7 => CV (sX8_slot E) x7 8 [aI l1] h6 (kP fun x8 h9 => CV (sX10_fits E) l0 10 [aP x8, aI l2, aI l3] h9 (kI fun x10 h11 => (¬ x10 = 0 → rdP h11 l0 10 5 fun x12 => rdI h11 x12 8 5 fun x13 => (x13 < (8 : Int32) → rdP h11 l0 10 5 fun x14 => CV (sX8_slot E) x14 8 [aI l1] h11 (kP fun x15 h16 => CV (sX10_addItem E) l0 10 [aP x15, aI l2, aI l3] h16 (kI fun x17 h18 => post (some (aI x17)) h18))) ∧ (¬ x13 < (8 : Int32) → post (some (aI (-1000003 : Int32))) h11)) ∧ (x10 = 0 → post (some (aI (-1000002 : Int32))) h11)))) ∧ (x5 = 0 → post (some (aI (-1000001 : Int32))) h6))))))
theorem bX10_place_0 {E : EV} {X : AX} {post : Option AV → AH → Prop} (C : Cb E X cX10_place RX10 4 rmX10_place) (D : Cr E X (some .int) rmX10_place "place" post) {h : AH} {l0 : Option Nat} {l1 : Int32} {l2 : Int32} {l3 : Int32} (w : PX10_place_0 E post h l0 l1 l2 l3) : Go E X 4 0 0 0 [(0, aP l0), (1, aI l1), (2, aI l2), (3, aI l3)] [] h := by
  unfold PX10_place_0 at w
  refine r_iload_n C dX10_place_0 rfl 1 rfl ?_
  refine r_csI (rm' := rmX10_isSlot) C mX10_isSlot vX10_isSlot k366 [aI l1] [] rfl rfl (Nat.le_of_ble_eq_true rfl) (by decide) ⟨Nat.zero_le _, Nat.zero_le _⟩ 0 0 rfl rfl dX10_place_1 w (fun x1 h2 w => ?_)
  refine r_if_eq C dX10_place_4 (tgt := 21) rfl (fun hc => ?_) (fun hc => ?_)
  · have w := w.1 hc
    refine r_ldc (v := -1000001) C dX10_place_21 k352 ?_
    exact r_iret C D rfl (Nat.zero_le _) (Nat.zero_le _) dX10_place_23 w
  · have w := w.2 hc
    refine r_iload_n C dX10_place_7 rfl 2 rfl ?_
    refine r_csI (rm' := rmX10_isNear) C mX10_isNear vX10_isNear k649 [aI l2] [] rfl rfl (Nat.le_of_ble_eq_true rfl) (by decide) ⟨Nat.zero_le _, Nat.zero_le _⟩ 0 0 rfl rfl dX10_place_8 w (fun x3 h4 w => ?_)
    refine r_if_eq C dX10_place_11 (tgt := 21) rfl (fun hc => ?_) (fun hc => ?_)
    · have w := w.1 hc
      refine r_ldc (v := -1000001) C dX10_place_21 k352 ?_
      exact r_iret C D rfl (Nat.zero_le _) (Nat.zero_le _) dX10_place_23 w
    · have w := w.2 hc
      refine r_iload_n C dX10_place_14 rfl 3 rfl ?_
      refine r_csI (rm' := rmX10_isNear) C mX10_isNear vX10_isNear k649 [aI l3] [] rfl rfl (Nat.le_of_ble_eq_true rfl) (by decide) ⟨Nat.zero_le _, Nat.zero_le _⟩ 0 0 rfl rfl dX10_place_15 w (fun x5 h6 w => ?_)
      refine r_if_ne C dX10_place_18 (tgt := 24) rfl (fun hc => ?_) (fun hc => ?_)
      · have w := w.1 hc
        refine r_aload_n C dX10_place_24 rfl 0 rfl ?_
        refine r_aload_n C dX10_place_25 rfl 0 rfl ?_
        refine r_getP C fcX10 (f := 5) (by decide) rfl k316 dX10_place_26 (w.mono fun x7 w => ?_)
        refine r_iload_n C dX10_place_29 rfl 1 rfl ?_
        refine r_cvP (rm' := rmX8_slot) C mX8_slot vX8_slot k537 [aI l1] [aP l0] rfl rfl (Nat.le_of_ble_eq_true rfl) (by decide) ⟨Nat.zero_le _, Nat.zero_le _⟩ 0 0 rfl rfl dX10_place_30 w (fun x8 h9 w => ?_)
        refine r_iload_n C dX10_place_33 rfl 2 rfl ?_
        refine r_iload_n C dX10_place_34 rfl 3 rfl ?_
        refine r_cvI (rm' := rmX10_fits) C mX10_fits vX10_fits k758 [aP x8, aI l2, aI l3] [] rfl rfl (Nat.le_of_ble_eq_true rfl) (by decide) ⟨Nat.zero_le _, Nat.zero_le _⟩ 0 0 rfl rfl dX10_place_35 w (fun x10 h11 w => ?_)
        refine r_if_ne C dX10_place_38 (tgt := 44) rfl (fun hc => ?_) (fun hc => ?_)
        · have w := w.1 hc
          refine r_aload_n C dX10_place_44 rfl 0 rfl ?_
          refine r_getP C fcX10 (f := 5) (by decide) rfl k316 dX10_place_45 (w.mono fun x12 w => ?_)
          refine r_getI C fcX8 (f := 5) (by decide) rfl k261 dX10_place_48 (w.mono fun x13 w => ?_)
          refine r_bipush (v := 8) C dX10_place_51 rfl ?_
          refine r_icmp_lt C dX10_place_53 (tgt := 59) rfl (fun hc => ?_) (fun hc => ?_)
          · have w := w.1 hc
            refine r_aload_n C dX10_place_59 rfl 0 rfl ?_
            refine r_aload_n C dX10_place_60 rfl 0 rfl ?_
            refine r_getP C fcX10 (f := 5) (by decide) rfl k316 dX10_place_61 (w.mono fun x14 w => ?_)
            refine r_iload_n C dX10_place_64 rfl 1 rfl ?_
            refine r_cvP (rm' := rmX8_slot) C mX8_slot vX8_slot k537 [aI l1] [aP l0] rfl rfl (Nat.le_of_ble_eq_true rfl) (by decide) ⟨Nat.zero_le _, Nat.zero_le _⟩ 0 0 rfl rfl dX10_place_65 w (fun x15 h16 w => ?_)
            refine r_iload_n C dX10_place_68 rfl 2 rfl ?_
            refine r_iload_n C dX10_place_69 rfl 3 rfl ?_
            refine r_cvI (rm' := rmX10_addItem) C mX10_addItem vX10_addItem k762 [aP x15, aI l2, aI l3] [] rfl rfl (Nat.le_of_ble_eq_true rfl) (by decide) ⟨Nat.zero_le _, Nat.zero_le _⟩ 0 0 rfl rfl dX10_place_70 w (fun x17 h18 w => ?_)
            exact r_iret C D rfl (Nat.zero_le _) (Nat.zero_le _) dX10_place_73 w
          · have w := w.2 hc
            refine r_ldc (v := -1000003) C dX10_place_56 k353 ?_
            exact r_iret C D rfl (Nat.zero_le _) (Nat.zero_le _) dX10_place_58 w
        · have w := w.2 hc
          refine r_ldc (v := -1000002) C dX10_place_41 k539 ?_
          exact r_iret C D rfl (Nat.zero_le _) (Nat.zero_le _) dX10_place_43 w
      · have w := w.2 hc
        refine r_ldc (v := -1000001) C dX10_place_21 k352 ?_
        exact r_iret C D rfl (Nat.zero_le _) (Nat.zero_le _) dX10_place_23 w
theorem eX10_place {E : EV} {post : Option AV → AH → Prop} {h : AH} {l0 : Option Nat} {l1 : Int32} {l2 : Int32} {l3 : Int32} (w : PX10_place_0 E post h l0 l1 l2 l3) : sX10_place E [aP l0, aI l1, aI l2, aI l3] h post := Spec.of RX10 rfl rfl (Nat.le_of_ble_eq_true rfl) fun X C D => bX10_place_0 C D w
theorem dX10_placingError_0 : decode cX10_placingError 0 = .ok (.iload_n 1, 1) := by decide +kernel
theorem dX10_placingError_1 : decode cX10_placingError 1 = .ok (.invokestatic 98, 3) := by decide +kernel
theorem dX10_placingError_4 : decode cX10_placingError 4 = .ok (.ifCond .ne 6, 3) := by decide +kernel
theorem dX10_placingError_7 : decode cX10_placingError 7 = .ok (.ldc 88, 2) := by decide +kernel
theorem dX10_placingError_9 : decode cX10_placingError 9 = .ok (.ireturn, 1) := by decide +kernel
theorem dX10_placingError_10 : decode cX10_placingError 10 = .ok (.aload_n 0, 1) := by decide +kernel
theorem dX10_placingError_11 : decode cX10_placingError 11 = .ok (.iload_n 1, 1) := by decide +kernel
theorem dX10_placingError_12 : decode cX10_placingError 12 = .ok (.invokevirtual 188, 3) := by decide +kernel
theorem dX10_placingError_15 : decode cX10_placingError 15 = .ok (.ifCond .eq 6, 3) := by decide +kernel
theorem dX10_placingError_18 : decode cX10_placingError 18 = .ok (.ldc 124, 2) := by decide +kernel
theorem dX10_placingError_20 : decode cX10_placingError 20 = .ok (.ireturn, 1) := by decide +kernel
theorem dX10_placingError_21 : decode cX10_placingError 21 = .ok (.aload_n 0, 1) := by decide +kernel
theorem dX10_placingError_22 : decode cX10_placingError 22 = .ok (.getfield 52, 3) := by decide +kernel
theorem dX10_placingError_25 : decode cX10_placingError 25 = .ok (.getfield 218, 3) := by decide +kernel
theorem dX10_placingError_28 : decode cX10_placingError 28 = .ok (.bipush 8, 2) := by decide +kernel
theorem dX10_placingError_30 : decode cX10_placingError 30 = .ok (.if_icmp .lt 8, 3) := by decide +kernel
theorem dX10_placingError_33 : decode cX10_placingError 33 = .ok (.ldc 93, 2) := by decide +kernel
theorem dX10_placingError_35 : decode cX10_placingError 35 = .ok (.goto 4, 3) := by decide +kernel
theorem dX10_placingError_38 : decode cX10_placingError 38 = .ok (.iconst 0, 1) := by decide +kernel
theorem dX10_placingError_39 : decode cX10_placingError 39 = .ok (.ireturn, 1) := by decide +kernel
abbrev rmX10_placingError : Room := { frames := 2, cells := 0, slots := 0, locals := 80 }
abbrev sX10_placingError (E : EV) : List AV → AH → (Option AV → AH → Prop) → Prop := Spec E yX10_placingError cX10_placingError 2 (some .int) rmX10_placingError
theorem mX10_placingError : Mt yX10_placingError cX10_placingError 2 (some .int) 1 := ⟨k777, k1, by decide +kernel⟩
theorem vX10_placingError : MtV yX10_placingError 10 := ⟨k776, kp16, by decide, (RX10, TX10, 12), rfl, rfl⟩
def PX10_placingError_0 (E : EV) (post : Option AV → AH → Prop) (h : AH) (l0 : Option Nat) (l1 : Int32) : Prop :=
  CS (sX10_isSlot E) [aI l1] h (kI fun x1 h2 => (¬ x1 = 0 → CV (sX10_isSlotEmpty E) l0 10 [aI l1] h2 (kI fun x3 h4 => (x3 = 0 → rdP h4 l0 10 5 fun x5 => rdI h4 x5 8 5 fun x6 => (x6 < (8 : Int32) → post (some (aI (0 : Int32))) h4) ∧ (¬ x6 < (8 : Int32) → post (some (aI (-1000003 : Int32))) h4)) ∧ (¬ x3 = 0 → post (some (aI (-1000002 : Int32))) h4))) ∧ (x1 = 0 → post (some (aI (-1000001 : Int32))) h2))
theorem bX10_placingError_0 {E : EV} {X : AX} {post : Option AV → AH → Prop} (C : Cb E X cX10_placingError RX10 2 rmX10_placingError) (D : Cr E X (some .int) rmX10_placingError "placingError" post) {h : AH} {l0 : Option Nat} {l1 : Int32} (w : PX10_placingError_0 E post h l0 l1) : Go E X 2 0 0 0 [(0, aP l0), (1, aI l1)] [] h := by
  unfold PX10_placingError_0 at w
  refine r_iload_n C dX10_placingError_0 rfl 1 rfl ?_
  refine r_csI (rm' := rmX10_isSlot) C mX10_isSlot vX10_isSlot k366 [aI l1] [] rfl rfl (Nat.le_of_ble_eq_true rfl) (by decide) ⟨Nat.zero_le _, Nat.zero_le _⟩ 0 0 rfl rfl dX10_placingError_1 w (fun x1 h2 w => ?_)
  refine r_if_ne C dX10_placingError_4 (tgt := 10) rfl (fun hc => ?_) (fun hc => ?_)
  · have w := w.1 hc
    refine r_aload_n C dX10_placingError_10 rfl 0 rfl ?_
    refine r_iload_n C dX10_placingError_11 rfl 1 rfl ?_
    refine r_cvI (rm' := rmX10_isSlotEmpty) C mX10_isSlotEmpty vX10_isSlotEmpty k652 [aI l1] [] rfl rfl (Nat.le_of_ble_eq_true rfl) (by decide) ⟨Nat.zero_le _, Nat.zero_le _⟩ 0 0 rfl rfl dX10_placingError_12 w (fun x3 h4 w => ?_)
    refine r_if_eq C dX10_placingError_15 (tgt := 21) rfl (fun hc => ?_) (fun hc => ?_)
    · have w := w.1 hc
      refine r_aload_n C dX10_placingError_21 rfl 0 rfl ?_
      refine r_getP C fcX10 (f := 5) (by decide) rfl k316 dX10_placingError_22 (w.mono fun x5 w => ?_)
      refine r_getI C fcX8 (f := 5) (by decide) rfl k261 dX10_placingError_25 (w.mono fun x6 w => ?_)
      refine r_bipush (v := 8) C dX10_placingError_28 rfl ?_
      refine r_icmp_lt C dX10_placingError_30 (tgt := 38) rfl (fun hc => ?_) (fun hc => ?_)
      · have w := w.1 hc
        refine r_iconst (v := 0) C dX10_placingError_38 rfl ?_
        exact r_iret C D rfl (Nat.zero_le _) (Nat.zero_le _) dX10_placingError_39 w
      · have w := w.2 hc
        refine r_ldc (v := -1000003) C dX10_placingError_33 k353 ?_
        refine r_goto C dX10_placingError_35 (tgt := 39) rfl ?_
        exact r_iret C D rfl (Nat.zero_le _) (Nat.zero_le _) dX10_placingError_39 w
    · have w := w.2 hc
      refine r_ldc (v := -1000002) C dX10_placingError_18 k539 ?_
      exact r_iret C D rfl (Nat.zero_le _) (Nat.zero_le _) dX10_placingError_20 w
  · have w := w.2 hc
    refine r_ldc (v := -1000001) C dX10_placingError_7 k352 ?_
    exact r_iret C D rfl (Nat.zero_le _) (Nat.zero_le _) dX10_placingError_9 w
theorem eX10_placingError {E : EV} {post : Option AV → AH → Prop} {h : AH} {l0 : Option Nat} {l1 : Int32} (w : PX10_placingError_0 E post h l0 l1) : sX10_placingError E [aP l0, aI l1] h post := Spec.of RX10 rfl rfl (Nat.le_of_ble_eq_true rfl) fun X C D => bX10_placingError_0 C D w
theorem dX10_placeBottomLeft_0 : decode cX10_placeBottomLeft 0 = .ok (.aload_n 0, 1) := by decide +kernel
theorem dX10_placeBottomLeft_1 : decode cX10_placeBottomLeft 1 = .ok (.iload_n 1, 1) := by decide +kernel
theorem dX10_placeBottomLeft_2 : decode cX10_placeBottomLeft 2 = .ok (.invokevirtual 234, 3) := by decide +kernel
theorem dX10_placeBottomLeft_5 : decode cX10_placeBottomLeft 5 = .ok (.istore_n 2, 1) := by decide +kernel
theorem dX10_placeBottomLeft_6 : decode cX10_placeBottomLeft 6 = .ok (.iload_n 2, 1) := by decide +kernel
theorem dX10_placeBottomLeft_7 : decode cX10_placeBottomLeft 7 = .ok (.ifCond .eq 5, 3) := by decide +kernel
theorem dX10_placeBottomLeft_10 : decode cX10_placeBottomLeft 10 = .ok (.iload_n 2, 1) := by decide +kernel
theorem dX10_placeBottomLeft_11 : decode cX10_placeBottomLeft 11 = .ok (.ireturn, 1) := by decide +kernel
theorem dX10_placeBottomLeft_12 : decode cX10_placeBottomLeft 12 = .ok (.aload_n 0, 1) := by decide +kernel
theorem dX10_placeBottomLeft_13 : decode cX10_placeBottomLeft 13 = .ok (.aload_n 0, 1) := by decide +kernel
theorem dX10_placeBottomLeft_14 : decode cX10_placeBottomLeft 14 = .ok (.getfield 52, 3) := by decide +kernel
theorem dX10_placeBottomLeft_17 : decode cX10_placeBottomLeft 17 = .ok (.iload_n 1, 1) := by decide +kernel
theorem dX10_placeBottomLeft_18 : decode cX10_placeBottomLeft 18 = .ok (.invokevirtual 116, 3) := by decide +kernel
theorem dX10_placeBottomLeft_21 : decode cX10_placeBottomLeft 21 = .ok (.invokevirtual 237, 3) := by decide +kernel
theorem dX10_placeBottomLeft_24 : decode cX10_placeBottomLeft 24 = .ok (.ireturn, 1) := by decide +kernel
abbrev rmX10_placeBottomLeft : Room := { frames := 6, cells := 0, slots := 0, locals := 240 }
abbrev sX10_placeBottomLeft (E : EV) : List AV → AH → (Option AV → AH → Prop) → Prop := Spec E yX10_placeBottomLeft cX10_placeBottomLeft 3 (some .int) rmX10_placeBottomLeft
theorem mX10_placeBottomLeft : Mt yX10_placeBottomLeft cX10_placeBottomLeft 3 (some .int) 1 := ⟨k773, k1, by decide +kernel⟩
theorem vX10_placeBottomLeft : MtV yX10_placeBottomLeft 10 := ⟨k771, k772, by decide, (RX10, TX10, 12), rfl, rfl⟩
def PX10_placeBottomLeft_0 (E : EV) (post : Option AV → AH → Prop) (h : AH) (l0 : Option Nat) (l1 : Int32) : Prop :=
  CV (sX10_placingError E) l0 10 [aI l1] h (kI fun x1 h2 => (x1 = 0 → rdP h2 l0 10 5 fun x4 => CV (sX8_slot E) x4 8 [aI l1] h2 (kP fun x5 h6 => CV (sX10_addAtBottomLeft E) l0 10 [aP x5] h6 (kI fun x7 h8 => post (some (aI x7)) h8))) ∧ (¬ x1 = 0 → post (some (aI x1)) h2))
theorem bX10_placeBottomLeft_0 {E : EV} {X : AX} {post : Option AV → AH → Prop} (C : Cb E X cX10_placeBottomLeft RX10 3 rmX10_placeBottomLeft) (D : Cr E X (some .int) rmX10_placeBottomLeft "placeBottomLeft" post) {h : AH} {l0 : Option Nat} {l1 : Int32} (w : PX10_placeBottomLeft_0 E post h l0 l1) : Go E X 3 0 0 0 [(0, aP l0), (1, aI l1)] [] h := by
  unfold PX10_placeBottomLeft_0 at w
  refine r_aload_n C dX10_placeBottomLeft_0 rfl 0 rfl ?_
  refine r_iload_n C dX10_placeBottomLeft_1 rfl 1 rfl ?_
  refine r_cvI (rm' := rmX10_placingError) C mX10_placingError vX10_placingError k774 [aI l1] [] rfl rfl (Nat.le_of_ble_eq_true rfl) (by decide) ⟨Nat.zero_le _, Nat.zero_le _⟩ 0 0 rfl rfl dX10_placeBottomLeft_2 w (fun x1 h2 w => ?_)
  refine r_istore_n C dX10_placeBottomLeft_5 rfl (by decide) rfl ?_
  refine r_iload_n C dX10_placeBottomLeft_6 rfl 0 rfl ?_
  refine r_if_eq C dX10_placeBottomLeft_7 (tgt := 12) rfl (fun hc => ?_) (fun hc => ?_)
  · have w := w.1 hc
    refine r_aload_n C dX10_placeBottomLeft_12 rfl 1 rfl ?_
    refine r_aload_n C dX10_placeBottomLeft_13 rfl 1 rfl ?_
    refine r_getP C fcX10 (f := 5) (by decide) rfl k316 dX10_placeBottomLeft_14 (w.mono fun x4 w => ?_)
    refine r_iload_n C dX10_placeBottomLeft_17 rfl 2 rfl ?_
    refine r_cvP (rm' := rmX8_slot) C mX8_slot vX8_slot k537 [aI l1] [aP l0] rfl rfl (Nat.le_of_ble_eq_true rfl) (by decide) ⟨Nat.zero_le _, Nat.zero_le _⟩ 0 0 rfl rfl dX10_placeBottomLeft_18 w (fun x5 h6 w => ?_)
    refine r_cvI (rm' := rmX10_addAtBottomLeft) C mX10_addAtBottomLeft vX10_addAtBottomLeft k778 [aP x5] [] rfl rfl (Nat.le_of_ble_eq_true rfl) (by decide) ⟨Nat.zero_le _, Nat.zero_le _⟩ 0 0 rfl rfl dX10_placeBottomLeft_21 w (fun x7 h8 w => ?_)
    exact r_iret C D rfl (Nat.zero_le _) (Nat.zero_le _) dX10_placeBottomLeft_24 w
  · have w := w.2 hc
    refine r_iload_n C dX10_placeBottomLeft_10 rfl 0 rfl ?_
    exact r_iret C D rfl (Nat.zero_le _) (Nat.zero_le _) dX10_placeBottomLeft_11 w
theorem eX10_placeBottomLeft {E : EV} {post : Option AV → AH → Prop} {h : AH} {l0 : Option Nat} {l1 : Int32} (w : PX10_placeBottomLeft_0 E post h l0 l1) : sX10_placeBottomLeft E [aP l0, aI l1] h post := Spec.of RX10 rfl rfl (Nat.le_of_ble_eq_true rfl) fun X C D => bX10_placeBottomLeft_0 C D w
theorem dX10_placeTurned_0 : decode cX10_placeTurned 0 = .ok (.aload_n 0, 1) := by decide +kernel
theorem dX10_placeTurned_1 : decode cX10_placeTurned 1 = .ok (.iload_n 1, 1) := by decide +kernel
theorem dX10_placeTurned_2 : decode cX10_placeTurned 2 = .ok (.invokevirtual 234, 3) := by decide +kernel
theorem dX10_placeTurned_5 : decode cX10_placeTurned 5 = .ok (.istore_n 2, 1) := by decide +kernel
theorem dX10_placeTurned_6 : decode cX10_placeTurned 6 = .ok (.iload_n 2, 1) := by decide +kernel
theorem dX10_placeTurned_7 : decode cX10_placeTurned 7 = .ok (.ifCond .eq 5, 3) := by decide +kernel
theorem dX10_placeTurned_10 : decode cX10_placeTurned 10 = .ok (.iload_n 2, 1) := by decide +kernel
theorem dX10_placeTurned_11 : decode cX10_placeTurned 11 = .ok (.ireturn, 1) := by decide +kernel
theorem dX10_placeTurned_12 : decode cX10_placeTurned 12 = .ok (.aload_n 0, 1) := by decide +kernel
theorem dX10_placeTurned_13 : decode cX10_placeTurned 13 = .ok (.aload_n 0, 1) := by decide +kernel
theorem dX10_placeTurned_14 : decode cX10_placeTurned 14 = .ok (.getfield 52, 3) := by decide +kernel
theorem dX10_placeTurned_17 : decode cX10_placeTurned 17 = .ok (.iload_n 1, 1) := by decide +kernel
theorem dX10_placeTurned_18 : decode cX10_placeTurned 18 = .ok (.invokevirtual 116, 3) := by decide +kernel
theorem dX10_placeTurned_21 : decode cX10_placeTurned 21 = .ok (.invokevirtual 241, 3) := by decide +kernel
theorem dX10_placeTurned_24 : decode cX10_placeTurned 24 = .ok (.istore_n 3, 1) := by decide +kernel
theorem dX10_placeTurned_25 : decode cX10_placeTurned 25 = .ok (.iload_n 3, 1) := by decide +kernel
theorem dX10_placeTurned_26 : decode cX10_placeTurned 26 = .ok (.iconst 4, 1) := by decide +kernel
theorem dX10_placeTurned_27 : decode cX10_placeTurned 27 = .ok (.if_icmp .lt 6, 3) := by decide +kernel
theorem dX10_placeTurned_30 : decode cX10_placeTurned 30 = .ok (.ldc 160, 2) := by decide +kernel
theorem dX10_placeTurned_32 : decode cX10_placeTurned 32 = .ok (.ireturn, 1) := by decide +kernel
theorem dX10_placeTurned_33 : decode cX10_placeTurned 33 = .ok (.new 7, 3) := by decide +kernel
theorem dX10_placeTurned_36 : decode cX10_placeTurned 36 = .ok (.dup, 1) := by decide +kernel
theorem dX10_placeTurned_37 : decode cX10_placeTurned 37 = .ok (.invokespecial 9, 3) := by decide +kernel
theorem dX10_placeTurned_40 : decode cX10_placeTurned 40 = .ok (.astore 4, 2) := by decide +kernel
theorem dX10_placeTurned_42 : decode cX10_placeTurned 42 = .ok (.aload 4, 2) := by decide +kernel
theorem dX10_placeTurned_44 : decode cX10_placeTurned 44 = .ok (.aload_n 0, 1) := by decide +kernel
theorem dX10_placeTurned_45 : decode cX10_placeTurned 45 = .ok (.getfield 52, 3) := by decide +kernel
theorem dX10_placeTurned_48 : decode cX10_placeTurned 48 = .ok (.iload_n 1, 1) := by decide +kernel
theorem dX10_placeTurned_49 : decode cX10_placeTurned 49 = .ok (.invokevirtual 116, 3) := by decide +kernel
theorem dX10_placeTurned_52 : decode cX10_placeTurned 52 = .ok (.iload_n 3, 1) := by decide +kernel
theorem dX10_placeTurned_53 : decode cX10_placeTurned 53 = .ok (.invokevirtual 244, 3) := by decide +kernel
theorem dX10_placeTurned_56 : decode cX10_placeTurned 56 = .ok (.aload_n 0, 1) := by decide +kernel
theorem dX10_placeTurned_57 : decode cX10_placeTurned 57 = .ok (.aload 4, 2) := by decide +kernel
theorem dX10_placeTurned_59 : decode cX10_placeTurned 59 = .ok (.invokevirtual 237, 3) := by decide +kernel
theorem dX10_placeTurned_62 : decode cX10_placeTurned 62 = .ok (.ireturn, 1) := by decide +kernel
abbrev rmX10_placeTurned : Room := { frames := 6, cells := 4, slots := 50, locals := 240 }
abbrev sX10_placeTurned (E : EV) : List AV → AH → (Option AV → AH → Prop) → Prop := Spec E yX10_placeTurned cX10_placeTurned 5 (some .int) rmX10_placeTurned
theorem mX10_placeTurned : Mt yX10_placeTurned cX10_placeTurned 5 (some .int) 1 := ⟨k790, k1, by decide +kernel⟩
theorem vX10_placeTurned : MtV yX10_placeTurned 10 := ⟨k788, k789, by decide, (RX10, TX10, 12), rfl, rfl⟩
def PX10_placeTurned_0 (E : EV) (post : Option AV → AH → Prop) (k n : Nat) (h : AH) (l0 : Option Nat) (l1 : Int32) : Prop :=
  (k ≤ 4 ∧ n ≤ 50) ∧ CV (sX10_placingError E) l0 10 [aI l1] h (kI fun x1 h2 => (x1 = 0 → rdP h2 l0 10 5 fun x4 => (k ≤ 4 ∧ n ≤ 50) ∧ CV (sX8_slot E) x4 8 [aI l1] h2 (kP fun x5 h6 => (k ≤ 4 ∧ n ≤ 50) ∧ CV (sX10_bestTurns E) l0 10 [aP x5] h6 (kI fun x7 h8 => (x7 < (4 : Int32) → (k + 1 ≤ 4 ∧ n + 9 ≤ 50) ∧ (∀ h10, h10 = h8 ++ [.inr (6, [aP none, aP none, aP none, aI 0, aI 0, aI 0, aI 0, aI 0, aI 0])] → ((k + 1) + 3 ≤ 4 ∧ (n + 9) + 40 ≤ 50) ∧ CS (sX6_init E) [aP (some h8.length)] h10 (kV fun h12 => rdP h12 l0 10 5 fun x14 => (((k + 1) + 3) ≤ 4 ∧ ((n + 9) + 40) ≤ 50) ∧ CV (sX8_slot E) x14 8 [aI l1] h12 (kP fun x15 h16 => (((k + 1) + 3) ≤ 4 ∧ ((n + 9) + 40) ≤ 50) ∧ CV (sX6_setTurned E) (some h8.length) 6 [aP x15, aI x7] h16 (kV fun h18 => (((k + 1) + 3) ≤ 4 ∧ ((n + 9) + 40) ≤ 50) ∧ CV (sX10_addAtBottomLeft E) l0 10 [aP (some h8.length)] h18 (kI fun x19 h20 => (((k + 1) + 3) ≤ 4 ∧ ((n + 9) + 40) ≤ 50) ∧ post (some (aI x19)) h20)))))) ∧ (¬ x7 < (4 : Int32) → (k ≤ 4 ∧ n ≤ 50) ∧ post (some (aI (-1000009 : Int32))) h8)))) ∧ (¬ x1 = 0 → (k ≤ 4 ∧ n ≤ 50) ∧ post (some (aI x1)) h2))
theorem bX10_placeTurned_0 {E : EV} {X : AX} {post : Option AV → AH → Prop} (C : Cb E X cX10_placeTurned RX10 5 rmX10_placeTurned) (D : Cr E X (some .int) rmX10_placeTurned "placeTurned" post) {k n : Nat} {h : AH} {l0 : Option Nat} {l1 : Int32} (w : PX10_placeTurned_0 E post k n h l0 l1) : Go E X 5 k n 0 [(0, aP l0), (1, aI l1)] [] h := by
  unfold PX10_placeTurned_0 at w
  refine r_aload_n C dX10_placeTurned_0 rfl 0 rfl ?_
  refine r_iload_n C dX10_placeTurned_1 rfl 1 rfl ?_
  refine r_cvI (rm' := rmX10_placingError) C mX10_placingError vX10_placingError k774 [aI l1] [] rfl rfl (Nat.le_of_ble_eq_true rfl) (by decide) w.1 k n rfl rfl dX10_placeTurned_2 w.2 (fun x1 h2 w => ?_)
  refine r_istore_n C dX10_placeTurned_5 rfl (by decide) rfl ?_
  refine r_iload_n C dX10_placeTurned_6 rfl 0 rfl ?_
  refine r_if_eq C dX10_placeTurned_7 (tgt := 12) rfl (fun hc => ?_) (fun hc => ?_)
  · have w := w.1 hc
    refine r_aload_n C dX10_placeTurned_12 rfl 1 rfl ?_
    refine r_aload_n C dX10_placeTurned_13 rfl 1 rfl ?_
    refine r_getP C fcX10 (f := 5) (by decide) rfl k316 dX10_placeTurned_14 (w.mono fun x4 w => ?_)
    refine r_iload_n C dX10_placeTurned_17 rfl 2 rfl ?_
    refine r_cvP (rm' := rmX8_slot) C mX8_slot vX8_slot k537 [aI l1] [aP l0] rfl rfl (Nat.le_of_ble_eq_true rfl) (by decide) w.1 k n rfl rfl dX10_placeTurned_18 w.2 (fun x5 h6 w => ?_)
    refine r_cvI (rm' := rmX10_bestTurns) C mX10_bestTurns vX10_bestTurns k791 [aP x5] [] rfl rfl (Nat.le_of_ble_eq_true rfl) (by decide) w.1 k n rfl rfl dX10_placeTurned_21 w.2 (fun x7 h8 w => ?_)
    refine r_istore_n C dX10_placeTurned_24 rfl (by decide) rfl ?_
    refine r_iload_n C dX10_placeTurned_25 rfl 0 rfl ?_
    refine r_iconst (v := 4) C dX10_placeTurned_26 rfl ?_
    refine r_icmp_lt C dX10_placeTurned_27 (tgt := 33) rfl (fun hc => ?_) (fun hc => ?_)
    · have w := w.1 hc
      refine r_new (fs := [aP none, aP none, aP none, aI 0, aI 0, aI 0, aI 0, aI 0, aI 0]) C fcX6 rfl df_X6 k22 k23 k2 w.1.1 w.1.2 dX10_placeTurned_33 ?_
      have w := w.2 _ rfl
      generalize h8 ++ [.inr (6, [aP none, aP none, aP none, aI 0, aI 0, aI 0, aI 0, aI 0, aI 0])] = h10 at w ⊢
      refine r_dup C dX10_placeTurned_36 rfl ?_
      refine r_ciV (rm' := rmX6_init) C mX6_init vX6_init (host := "NestingPlanner") (Or.inr nk24) [] [aP (some h8.length)] rfl rfl (Nat.le_of_ble_eq_true rfl) (by decide) w.1 ((k + 1) + 3) ((n + 9) + 40) rfl rfl dX10_placeTurned_37 rfl w.2 (fun h12 w => ?_)
      refine r_astore C dX10_placeTurned_40 (by decide) rfl ?_
      refine r_aload C dX10_placeTurned_42 0 rfl ?_
      refine r_aload_n C dX10_placeTurned_44 rfl 3 rfl ?_
      refine r_getP C fcX10 (f := 5) (by decide) rfl k316 dX10_placeTurned_45 (w.mono fun x14 w => ?_)
      refine r_iload_n C dX10_placeTurned_48 rfl 4 rfl ?_
      refine r_cvP (rm' := rmX8_slot) C mX8_slot vX8_slot k537 [aI l1] [aP (some h8.length)] rfl rfl (Nat.le_of_ble_eq_true rfl) (by decide) w.1 ((k + 1) + 3) ((n + 9) + 40) rfl rfl dX10_placeTurned_49 w.2 (fun x15 h16 w => ?_)
      refine r_iload_n C dX10_placeTurned_52 rfl 1 rfl ?_
      refine r_cvV (rm' := rmX6_setTurned) C mX6_setTurned vX6_setTurned k466 [aP x15, aI x7] [] rfl rfl (Nat.le_of_ble_eq_true rfl) (by decide) w.1 ((k + 1) + 3) ((n + 9) + 40) rfl rfl dX10_placeTurned_53 w.2 (fun h18 w => ?_)
      refine r_aload_n C dX10_placeTurned_56 rfl 3 rfl ?_
      refine r_aload C dX10_placeTurned_57 0 rfl ?_
      refine r_cvI (rm' := rmX10_addAtBottomLeft) C mX10_addAtBottomLeft vX10_addAtBottomLeft k778 [aP (some h8.length)] [] rfl rfl (Nat.le_of_ble_eq_true rfl) (by decide) w.1 ((k + 1) + 3) ((n + 9) + 40) rfl rfl dX10_placeTurned_59 w.2 (fun x19 h20 w => ?_)
      exact r_iret C D rfl w.1.1 w.1.2 dX10_placeTurned_62 w.2
    · have w := w.2 hc
      refine r_ldc (v := -1000009) C dX10_placeTurned_30 k593 ?_
      exact r_iret C D rfl w.1.1 w.1.2 dX10_placeTurned_32 w.2
  · have w := w.2 hc
    refine r_iload_n C dX10_placeTurned_10 rfl 0 rfl ?_
    exact r_iret C D rfl w.1.1 w.1.2 dX10_placeTurned_11 w.2
theorem eX10_placeTurned {E : EV} {post : Option AV → AH → Prop} {h : AH} {l0 : Option Nat} {l1 : Int32} (w : PX10_placeTurned_0 E post 0 0 h l0 l1) : sX10_placeTurned E [aP l0, aI l1] h post := Spec.of RX10 rfl rfl (Nat.le_of_ble_eq_true rfl) fun X C D => bX10_placeTurned_0 C D w
theorem dX10_removalOrder_0 : decode cX10_removalOrder 0 = .ok (.iload_n 1, 1) := by decide +kernel
theorem dX10_removalOrder_1 : decode cX10_removalOrder 1 = .ok (.invokestatic 168, 3) := by decide +kernel
theorem dX10_removalOrder_4 : decode cX10_removalOrder 4 = .ok (.ifCond .eq 7, 3) := by decide +kernel
theorem dX10_removalOrder_7 : decode cX10_removalOrder 7 = .ok (.iload_n 2, 1) := by decide +kernel
theorem dX10_removalOrder_8 : decode cX10_removalOrder 8 = .ok (.ifCond .ge 6, 3) := by decide +kernel
theorem dX10_removalOrder_11 : decode cX10_removalOrder 11 = .ok (.ldc 88, 2) := by decide +kernel
theorem dX10_removalOrder_13 : decode cX10_removalOrder 13 = .ok (.ireturn, 1) := by decide +kernel
theorem dX10_removalOrder_14 : decode cX10_removalOrder 14 = .ok (.iconst 0, 1) := by decide +kernel
theorem dX10_removalOrder_15 : decode cX10_removalOrder 15 = .ok (.istore_n 3, 1) := by decide +kernel
theorem dX10_removalOrder_16 : decode cX10_removalOrder 16 = .ok (.iload_n 3, 1) := by decide +kernel
theorem dX10_removalOrder_17 : decode cX10_removalOrder 17 = .ok (.aload_n 0, 1) := by decide +kernel
theorem dX10_removalOrder_18 : decode cX10_removalOrder 18 = .ok (.getfield 52, 3) := by decide +kernel
theorem dX10_removalOrder_21 : decode cX10_removalOrder 21 = .ok (.getfield 218, 3) := by decide +kernel
theorem dX10_removalOrder_24 : decode cX10_removalOrder 24 = .ok (.if_icmp .ge 30, 3) := by decide +kernel
theorem dX10_removalOrder_27 : decode cX10_removalOrder 27 = .ok (.iload_n 3, 1) := by decide +kernel
theorem dX10_removalOrder_28 : decode cX10_removalOrder 28 = .ok (.aload_n 0, 1) := by decide +kernel
theorem dX10_removalOrder_29 : decode cX10_removalOrder 29 = .ok (.getfield 84, 3) := by decide +kernel
theorem dX10_removalOrder_32 : decode cX10_removalOrder 32 = .ok (.arraylength, 1) := by decide +kernel
theorem dX10_removalOrder_33 : decode cX10_removalOrder 33 = .ok (.if_icmp .ge 21, 3) := by decide +kernel
theorem dX10_removalOrder_36 : decode cX10_removalOrder 36 = .ok (.aload_n 0, 1) := by decide +kernel
theorem dX10_removalOrder_37 : decode cX10_removalOrder 37 = .ok (.getfield 84, 3) := by decide +kernel
theorem dX10_removalOrder_40 : decode cX10_removalOrder 40 = .ok (.iload_n 3, 1) := by decide +kernel
theorem dX10_removalOrder_41 : decode cX10_removalOrder 41 = .ok (.aload_n 0, 1) := by decide +kernel
theorem dX10_removalOrder_42 : decode cX10_removalOrder 42 = .ok (.iload_n 3, 1) := by decide +kernel
theorem dX10_removalOrder_43 : decode cX10_removalOrder 43 = .ok (.iload_n 1, 1) := by decide +kernel
theorem dX10_removalOrder_44 : decode cX10_removalOrder 44 = .ok (.invokevirtual 301, 3) := by decide +kernel
theorem dX10_removalOrder_47 : decode cX10_removalOrder 47 = .ok (.iastore, 1) := by decide +kernel
theorem dX10_removalOrder_48 : decode cX10_removalOrder 48 = .ok (.iinc 3 1, 3) := by decide +kernel
theorem dX10_removalOrder_51 : decode cX10_removalOrder 51 = .ok (.goto (-35), 3) := by decide +kernel
theorem dX10_removalOrder_54 : decode cX10_removalOrder 54 = .ok (.iconst 1, 1) := by decide +kernel
theorem dX10_removalOrder_55 : decode cX10_removalOrder 55 = .ok (.aload_n 0, 1) := by decide +kernel
theorem dX10_removalOrder_56 : decode cX10_removalOrder 56 = .ok (.getfield 52, 3) := by decide +kernel
theorem dX10_removalOrder_59 : decode cX10_removalOrder 59 = .ok (.getfield 218, 3) := by decide +kernel
theorem dX10_removalOrder_62 : decode cX10_removalOrder 62 = .ok (.ishl, 1) := by decide +kernel
theorem dX10_removalOrder_63 : decode cX10_removalOrder 63 = .ok (.iconst 1, 1) := by decide +kernel
theorem dX10_removalOrder_64 : decode cX10_removalOrder 64 = .ok (.isub, 1) := by decide +kernel
theorem dX10_removalOrder_65 : decode cX10_removalOrder 65 = .ok (.istore_n 3, 1) := by decide +kernel
theorem dX10_removalOrder_66 : decode cX10_removalOrder 66 = .ok (.iconst 0, 1) := by decide +kernel
theorem dX10_removalOrder_67 : decode cX10_removalOrder 67 = .ok (.istore 4, 2) := by decide +kernel
theorem dX10_removalOrder_69 : decode cX10_removalOrder 69 = .ok (.iload 4, 2) := by decide +kernel
theorem dX10_removalOrder_71 : decode cX10_removalOrder 71 = .ok (.aload_n 0, 1) := by decide +kernel
theorem dX10_removalOrder_72 : decode cX10_removalOrder 72 = .ok (.getfield 52, 3) := by decide +kernel
theorem dX10_removalOrder_75 : decode cX10_removalOrder 75 = .ok (.getfield 218, 3) := by decide +kernel
theorem dX10_removalOrder_78 : decode cX10_removalOrder 78 = .ok (.if_icmp .ge 41, 3) := by decide +kernel
theorem dX10_removalOrder_81 : decode cX10_removalOrder 81 = .ok (.aload_n 0, 1) := by decide +kernel
theorem dX10_removalOrder_82 : decode cX10_removalOrder 82 = .ok (.iload_n 3, 1) := by decide +kernel
theorem dX10_removalOrder_83 : decode cX10_removalOrder 83 = .ok (.invokevirtual 304, 3) := by decide +kernel
theorem dX10_removalOrder_86 : decode cX10_removalOrder 86 = .ok (.istore 5, 2) := by decide +kernel
theorem dX10_removalOrder_88 : decode cX10_removalOrder 88 = .ok (.iload 5, 2) := by decide +kernel
theorem dX10_removalOrder_90 : decode cX10_removalOrder 90 = .ok (.iconst (-1), 1) := by decide +kernel
theorem dX10_removalOrder_91 : decode cX10_removalOrder 91 = .ok (.if_icmp .ne 6, 3) := by decide +kernel
theorem dX10_removalOrder_94 : decode cX10_removalOrder 94 = .ok (.ldc 160, 2) := by decide +kernel
theorem dX10_removalOrder_96 : decode cX10_removalOrder 96 = .ok (.ireturn, 1) := by decide +kernel
theorem dX10_removalOrder_97 : decode cX10_removalOrder 97 = .ok (.iload 4, 2) := by decide +kernel
theorem dX10_removalOrder_99 : decode cX10_removalOrder 99 = .ok (.iload_n 2, 1) := by decide +kernel
theorem dX10_removalOrder_100 : decode cX10_removalOrder 100 = .ok (.if_icmp .ne 6, 3) := by decide +kernel
theorem dX10_removalOrder_103 : decode cX10_removalOrder 103 = .ok (.iload 5, 2) := by decide +kernel
theorem dX10_removalOrder_105 : decode cX10_removalOrder 105 = .ok (.ireturn, 1) := by decide +kernel
theorem dX10_removalOrder_106 : decode cX10_removalOrder 106 = .ok (.iload_n 3, 1) := by decide +kernel
theorem dX10_removalOrder_107 : decode cX10_removalOrder 107 = .ok (.iconst 1, 1) := by decide +kernel
theorem dX10_removalOrder_108 : decode cX10_removalOrder 108 = .ok (.iload 5, 2) := by decide +kernel
theorem dX10_removalOrder_110 : decode cX10_removalOrder 110 = .ok (.ishl, 1) := by decide +kernel
theorem dX10_removalOrder_111 : decode cX10_removalOrder 111 = .ok (.isub, 1) := by decide +kernel
theorem dX10_removalOrder_112 : decode cX10_removalOrder 112 = .ok (.istore_n 3, 1) := by decide +kernel
theorem dX10_removalOrder_113 : decode cX10_removalOrder 113 = .ok (.iinc 4 1, 3) := by decide +kernel
theorem dX10_removalOrder_116 : decode cX10_removalOrder 116 = .ok (.goto (-47), 3) := by decide +kernel
theorem dX10_removalOrder_119 : decode cX10_removalOrder 119 = .ok (.ldc 160, 2) := by decide +kernel
theorem dX10_removalOrder_121 : decode cX10_removalOrder 121 = .ok (.ireturn, 1) := by decide +kernel
abbrev rmX10_removalOrder : Room := { frames := 6, cells := 0, slots := 0, locals := 240 }
abbrev sX10_removalOrder (E : EV) : List AV → AH → (Option AV → AH → Prop) → Prop := Spec E yX10_removalOrder cX10_removalOrder 6 (some .int) rmX10_removalOrder
theorem mX10_removalOrder : Mt yX10_removalOrder cX10_removalOrder 6 (some .int) 2 := ⟨k906, k1, by decide +kernel⟩
theorem vX10_removalOrder : MtV yX10_removalOrder 10 := ⟨k904, k905, by decide, (RX10, TX10, 12), rfl, rfl⟩
def PX10_removalOrder_69 (E : EV) (post : Option AV → AH → Prop) (J69 : AH → Option Nat → Int32 → Int32 → Int32 → Prop) (h : AH) (l0 : Option Nat) (l2 : Int32) (l3 : Int32) (l4 : Int32) : Prop :=
  rdP h l0 10 5 fun x1 => rdI h x1 8 5 fun x2 => (x2 ≤ l4 → post (some (aI (-1000009 : Int32))) h) ∧ (¬ x2 ≤ l4 → CV (sX10_firstUnblocked E) l0 10 [aI l3] h (kI fun x3 h4 => (¬ x3 = (-1 : Int32) → (¬ l4 = l2 → ∀ v6, v6 = (l3 - ((1 : Int32) <<< (x3 &&& 31))) → J69 h4 l0 l2 v6 (l4 + (1 : Int32))) ∧ (l4 = l2 → post (some (aI x3)) h4)) ∧ (x3 = (-1 : Int32) → post (some (aI (-1000009 : Int32))) h4)))
theorem bX10_removalOrder_69 {E : EV} {X : AX} {post : Option AV → AH → Prop} (C : Cb E X cX10_removalOrder RX10 6 rmX10_removalOrder) (D : Cr E X (some .int) rmX10_removalOrder "removalOrder" post) {J69 : AH → Option Nat → Int32 → Int32 → Int32 → Prop} (g69 : ∀ (h : AH) (l0 : Option Nat) (l2 : Int32) (l3 : Int32) (l4 : Int32), J69 h l0 l2 l3 l4 → Go E X 6 0 0 69 [(0, aP l0), (2, aI l2), (3, aI l3), (4, aI l4)] [] h) {h : AH} {l0 : Option Nat} {l2 : Int32} {l3 : Int32} {l4 : Int32} (w : PX10_removalOrder_69 E post J69 h l0 l2 l3 l4) : Go E X 6 0 0 69 [(0, aP l0), (2, aI l2), (3, aI l3), (4, aI l4)] [] h := by
  unfold PX10_removalOrder_69 at w
  refine r_iload C dX10_removalOrder_69 3 rfl ?_
  refine r_aload_n C dX10_removalOrder_71 rfl 0 rfl ?_
  refine r_getP C fcX10 (f := 5) (by decide) rfl k316 dX10_removalOrder_72 (w.mono fun x1 w => ?_)
  refine r_getI C fcX8 (f := 5) (by decide) rfl k261 dX10_removalOrder_75 (w.mono fun x2 w => ?_)
  refine r_icmp_ge C dX10_removalOrder_78 (tgt := 119) rfl (fun hc => ?_) (fun hc => ?_)
  · have w := w.1 hc
    refine r_ldc (v := -1000009) C dX10_removalOrder_119 k593 ?_
    exact r_iret C D rfl (Nat.zero_le _) (Nat.zero_le _) dX10_removalOrder_121 w
  · have w := w.2 hc
    refine r_aload_n C dX10_removalOrder_81 rfl 0 rfl ?_
    refine r_iload_n C dX10_removalOrder_82 rfl 2 rfl ?_
    refine r_cvI (rm' := rmX10_firstUnblocked) C mX10_firstUnblocked vX10_firstUnblocked k907 [aI l3] [] rfl rfl (Nat.le_of_ble_eq_true rfl) (by decide) ⟨Nat.zero_le _, Nat.zero_le _⟩ 0 0 rfl rfl dX10_removalOrder_83 w (fun x3 h4 w => ?_)
    refine r_istore C dX10_removalOrder_86 (by decide) rfl ?_
    refine r_iload C dX10_removalOrder_88 0 rfl ?_
    refine r_iconst (v := -1) C dX10_removalOrder_90 rfl ?_
    refine r_icmp_ne C dX10_removalOrder_91 (tgt := 97) rfl (fun hc => ?_) (fun hc => ?_)
    · have w := w.1 hc
      refine r_iload C dX10_removalOrder_97 4 rfl ?_
      refine r_iload_n C dX10_removalOrder_99 rfl 2 rfl ?_
      refine r_icmp_ne C dX10_removalOrder_100 (tgt := 106) rfl (fun hc => ?_) (fun hc => ?_)
      · have w := w.1 hc
        refine r_iload_n C dX10_removalOrder_106 rfl 3 rfl ?_
        refine r_iconst (v := 1) C dX10_removalOrder_107 rfl ?_
        refine r_iload C dX10_removalOrder_108 0 rfl ?_
        refine r_ishl C dX10_removalOrder_110 ?_
        refine r_isub C dX10_removalOrder_111 ?_
        refine r_istore_n C dX10_removalOrder_112 rfl (by decide) rfl ?_
        have w := w _ rfl
        skip
        refine r_iinc C dX10_removalOrder_113 4 rfl (v := 1) rfl (by decide) rfl ?_
        refine r_goto C dX10_removalOrder_116 (tgt := 69) rfl ?_
        exact r_sub [3, 4, 1, 0] rfl (g69 h4 l0 l2 (l3 - ((1 : Int32) <<< (x3 &&& 31))) (l4 + (1 : Int32)) w)
      · have w := w.2 hc
        refine r_iload C dX10_removalOrder_103 0 rfl ?_
        exact r_iret C D rfl (Nat.zero_le _) (Nat.zero_le _) dX10_removalOrder_105 w
    · have w := w.2 hc
      refine r_ldc (v := -1000009) C dX10_removalOrder_94 k593 ?_
      exact r_iret C D rfl (Nat.zero_le _) (Nat.zero_le _) dX10_removalOrder_96 w
theorem lpX10_removalOrder_69 {E : EV} {X : AX} {post : Option AV → AH → Prop} (C : Cb E X cX10_removalOrder RX10 6 rmX10_removalOrder) (D : Cr E X (some .int) rmX10_removalOrder "removalOrder" post) (I : Nat → AH → Option Nat → Int32 → Int32 → Int32 → Prop) (step : ∀ (z : Nat) (h : AH) (l0 : Option Nat) (l2 : Int32) (l3 : Int32) (l4 : Int32), I z h l0 l2 l3 l4 → PX10_removalOrder_69 E post (fun h l0 l2 l3 l4 => ∃ z', z' < z ∧ I z' h l0 l2 l3 l4) h l0 l2 l3 l4) : ∀ (z : Nat) (h : AH) (l0 : Option Nat) (l2 : Int32) (l3 : Int32) (l4 : Int32), I z h l0 l2 l3 l4 → Go E X 6 0 0 69 [(0, aP l0), (2, aI l2), (3, aI l3), (4, aI l4)] [] h := by
  intro z
  induction z using Nat.strongRecOn with
  | _ z ih =>
    intro h l0 l2 l3 l4 hI
    exact bX10_removalOrder_69 C D (fun h l0 l2 l3 l4 hJ => by obtain ⟨z', hz, hi⟩ := hJ; exact ih z' hz h l0 l2 l3 l4 hi) (step z h l0 l2 l3 l4 hI)
def PX10_removalOrder_54 (E : EV) (post : Option AV → AH → Prop) (J69 : AH → Option Nat → Int32 → Int32 → Int32 → Prop) (h : AH) (l0 : Option Nat) (l2 : Int32) : Prop :=
  rdP h l0 10 5 fun x1 => rdI h x1 8 5 fun x2 => ∀ v3, v3 = (((1 : Int32) <<< (x2 &&& 31)) - (1 : Int32)) → J69 h l0 l2 v3 (0 : Int32)
theorem bX10_removalOrder_54 {E : EV} {X : AX} {post : Option AV → AH → Prop} (C : Cb E X cX10_removalOrder RX10 6 rmX10_removalOrder) (D : Cr E X (some .int) rmX10_removalOrder "removalOrder" post) {J69 : AH → Option Nat → Int32 → Int32 → Int32 → Prop} (g69 : ∀ (h : AH) (l0 : Option Nat) (l2 : Int32) (l3 : Int32) (l4 : Int32), J69 h l0 l2 l3 l4 → Go E X 6 0 0 69 [(0, aP l0), (2, aI l2), (3, aI l3), (4, aI l4)] [] h) {h : AH} {l0 : Option Nat} {l2 : Int32} (w : PX10_removalOrder_54 E post J69 h l0 l2) : Go E X 6 0 0 54 [(0, aP l0), (2, aI l2)] [] h := by
  unfold PX10_removalOrder_54 at w
  refine r_iconst (v := 1) C dX10_removalOrder_54 rfl ?_
  refine r_aload_n C dX10_removalOrder_55 rfl 0 rfl ?_
  refine r_getP C fcX10 (f := 5) (by decide) rfl k316 dX10_removalOrder_56 (w.mono fun x1 w => ?_)
  refine r_getI C fcX8 (f := 5) (by decide) rfl k261 dX10_removalOrder_59 (w.mono fun x2 w => ?_)
  refine r_ishl C dX10_removalOrder_62 ?_
  refine r_iconst (v := 1) C dX10_removalOrder_63 rfl ?_
  refine r_isub C dX10_removalOrder_64 ?_
  refine r_istore_n C dX10_removalOrder_65 rfl (by decide) rfl ?_
  have w := w _ rfl
  refine r_iconst (v := 0) C dX10_removalOrder_66 rfl ?_
  refine r_istore C dX10_removalOrder_67 (by decide) rfl ?_
  exact r_sub [2, 3, 1, 0] rfl (g69 h l0 l2 (((1 : Int32) <<< (x2 &&& 31)) - (1 : Int32)) (0 : Int32) w)
def PX10_removalOrder_16 (E : EV) (post : Option AV → AH → Prop) (J16 : AH → Option Nat → Int32 → Int32 → Int32 → Prop) (J69 : AH → Option Nat → Int32 → Int32 → Int32 → Prop) (h : AH) (l0 : Option Nat) (l1 : Int32) (l2 : Int32) (l3 : Int32) : Prop :=
  rdP h l0 10 5 fun x1 => rdI h x1 8 5 fun x2 => (x2 ≤ l3 → PX10_removalOrder_54 E post J69 h l0 l2) ∧ (¬ x2 ≤ l3 → rdP h l0 10 11 fun x3 => alenI h x3 0 fun x4 => (x4 ≤ l3 → PX10_removalOrder_54 E post J69 h l0 l2) ∧ (¬ x4 ≤ l3 → rdP h l0 10 11 fun x5 => CV (sX10_blockersOf E) l0 10 [aI l3, aI l1] h (kI fun x6 h7 => astI h7 x5 0 l3 x6 fun h8 => J16 h8 l0 l1 l2 (l3 + (1 : Int32)))))
theorem bX10_removalOrder_16 {E : EV} {X : AX} {post : Option AV → AH → Prop} (C : Cb E X cX10_removalOrder RX10 6 rmX10_removalOrder) (D : Cr E X (some .int) rmX10_removalOrder "removalOrder" post) {J16 : AH → Option Nat → Int32 → Int32 → Int32 → Prop} (g16 : ∀ (h : AH) (l0 : Option Nat) (l1 : Int32) (l2 : Int32) (l3 : Int32), J16 h l0 l1 l2 l3 → Go E X 6 0 0 16 [(0, aP l0), (1, aI l1), (2, aI l2), (3, aI l3)] [] h) {J69 : AH → Option Nat → Int32 → Int32 → Int32 → Prop} (g69 : ∀ (h : AH) (l0 : Option Nat) (l2 : Int32) (l3 : Int32) (l4 : Int32), J69 h l0 l2 l3 l4 → Go E X 6 0 0 69 [(0, aP l0), (2, aI l2), (3, aI l3), (4, aI l4)] [] h) {h : AH} {l0 : Option Nat} {l1 : Int32} {l2 : Int32} {l3 : Int32} (w : PX10_removalOrder_16 E post J16 J69 h l0 l1 l2 l3) : Go E X 6 0 0 16 [(0, aP l0), (1, aI l1), (2, aI l2), (3, aI l3)] [] h := by
  unfold PX10_removalOrder_16 at w
  refine r_iload_n C dX10_removalOrder_16 rfl 3 rfl ?_
  refine r_aload_n C dX10_removalOrder_17 rfl 0 rfl ?_
  refine r_getP C fcX10 (f := 5) (by decide) rfl k316 dX10_removalOrder_18 (w.mono fun x1 w => ?_)
  refine r_getI C fcX8 (f := 5) (by decide) rfl k261 dX10_removalOrder_21 (w.mono fun x2 w => ?_)
  refine r_icmp_ge C dX10_removalOrder_24 (tgt := 54) rfl (fun hc => ?_) (fun hc => ?_)
  · have w := w.1 hc
    exact r_sub [0, 2] rfl (bX10_removalOrder_54 C D g69 w)
  · have w := w.2 hc
    refine r_iload_n C dX10_removalOrder_27 rfl 3 rfl ?_
    refine r_aload_n C dX10_removalOrder_28 rfl 0 rfl ?_
    refine r_getP C fcX10 (f := 11) (by decide) rfl k322 dX10_removalOrder_29 (w.mono fun x3 w => ?_)
    refine r_alenI 0 0 rfl C dX10_removalOrder_32 (w.mono fun x4 w => ?_)
    refine r_icmp_ge C dX10_removalOrder_33 (tgt := 54) rfl (fun hc => ?_) (fun hc => ?_)
    · have w := w.1 hc
      exact r_sub [0, 2] rfl (bX10_removalOrder_54 C D g69 w)
    · have w := w.2 hc
      refine r_aload_n C dX10_removalOrder_36 rfl 0 rfl ?_
      refine r_getP C fcX10 (f := 11) (by decide) rfl k322 dX10_removalOrder_37 (w.mono fun x5 w => ?_)
      refine r_iload_n C dX10_removalOrder_40 rfl 3 rfl ?_
      refine r_aload_n C dX10_removalOrder_41 rfl 0 rfl ?_
      refine r_iload_n C dX10_removalOrder_42 rfl 3 rfl ?_
      refine r_iload_n C dX10_removalOrder_43 rfl 1 rfl ?_
      refine r_cvI (rm' := rmX10_blockersOf) C mX10_blockersOf vX10_blockersOf k899 [aI l3, aI l1] [aI l3, aP x5] rfl rfl (Nat.le_of_ble_eq_true rfl) (by decide) ⟨Nat.zero_le _, Nat.zero_le _⟩ 0 0 rfl rfl dX10_removalOrder_44 w (fun x6 h7 w => ?_)
      refine r_iast C dX10_removalOrder_47 (w.mono fun h8 w => ?_)
      refine r_iinc C dX10_removalOrder_48 3 rfl (v := 1) rfl (by decide) rfl ?_
      refine r_goto C dX10_removalOrder_51 (tgt := 16) rfl ?_
      exact r_sub [1, 2, 3, 0] rfl (g16 h8 l0 l1 l2 (l3 + (1 : Int32)) w)
theorem lpX10_removalOrder_16 {E : EV} {X : AX} {post : Option AV → AH → Prop} (C : Cb E X cX10_removalOrder RX10 6 rmX10_removalOrder) (D : Cr E X (some .int) rmX10_removalOrder "removalOrder" post) {J69 : AH → Option Nat → Int32 → Int32 → Int32 → Prop} (g69 : ∀ (h : AH) (l0 : Option Nat) (l2 : Int32) (l3 : Int32) (l4 : Int32), J69 h l0 l2 l3 l4 → Go E X 6 0 0 69 [(0, aP l0), (2, aI l2), (3, aI l3), (4, aI l4)] [] h) (I : Nat → AH → Option Nat → Int32 → Int32 → Int32 → Prop) (step : ∀ (z : Nat) (h : AH) (l0 : Option Nat) (l1 : Int32) (l2 : Int32) (l3 : Int32), I z h l0 l1 l2 l3 → PX10_removalOrder_16 E post (fun h l0 l1 l2 l3 => ∃ z', z' < z ∧ I z' h l0 l1 l2 l3) J69 h l0 l1 l2 l3) : ∀ (z : Nat) (h : AH) (l0 : Option Nat) (l1 : Int32) (l2 : Int32) (l3 : Int32), I z h l0 l1 l2 l3 → Go E X 6 0 0 16 [(0, aP l0), (1, aI l1), (2, aI l2), (3, aI l3)] [] h := by
  intro z
  induction z using Nat.strongRecOn with
  | _ z ih =>
    intro h l0 l1 l2 l3 hI
    exact bX10_removalOrder_16 C D (fun h l0 l1 l2 l3 hJ => by obtain ⟨z', hz, hi⟩ := hJ; exact ih z' hz h l0 l1 l2 l3 hi) g69 (step z h l0 l1 l2 l3 hI)
def PX10_removalOrder_0 (E : EV) (post : Option AV → AH → Prop) (J16 : AH → Option Nat → Int32 → Int32 → Int32 → Prop) (h : AH) (l0 : Option Nat) (l1 : Int32) (l2 : Int32) : Prop :=
  CS (sX10_isDirection E) [aI l1] h (kI fun x1 h2 => (x1 = 0 → post (some (aI (-1000001 : Int32))) h2) ∧ (¬ x1 = 0 → (0 ≤ l2 → J16 h2 l0 l1 l2 (0 : Int32)) ∧ (¬ 0 ≤ l2 → post (some (aI (-1000001 : Int32))) h2)))
theorem bX10_removalOrder_0 {E : EV} {X : AX} {post : Option AV → AH → Prop} (C : Cb E X cX10_removalOrder RX10 6 rmX10_removalOrder) (D : Cr E X (some .int) rmX10_removalOrder "removalOrder" post) {J16 : AH → Option Nat → Int32 → Int32 → Int32 → Prop} (g16 : ∀ (h : AH) (l0 : Option Nat) (l1 : Int32) (l2 : Int32) (l3 : Int32), J16 h l0 l1 l2 l3 → Go E X 6 0 0 16 [(0, aP l0), (1, aI l1), (2, aI l2), (3, aI l3)] [] h) {h : AH} {l0 : Option Nat} {l1 : Int32} {l2 : Int32} (w : PX10_removalOrder_0 E post J16 h l0 l1 l2) : Go E X 6 0 0 0 [(0, aP l0), (1, aI l1), (2, aI l2)] [] h := by
  unfold PX10_removalOrder_0 at w
  refine r_iload_n C dX10_removalOrder_0 rfl 1 rfl ?_
  refine r_csI (rm' := rmX10_isDirection) C mX10_isDirection vX10_isDirection k600 [aI l1] [] rfl rfl (Nat.le_of_ble_eq_true rfl) (by decide) ⟨Nat.zero_le _, Nat.zero_le _⟩ 0 0 rfl rfl dX10_removalOrder_1 w (fun x1 h2 w => ?_)
  refine r_if_eq C dX10_removalOrder_4 (tgt := 11) rfl (fun hc => ?_) (fun hc => ?_)
  · have w := w.1 hc
    refine r_ldc (v := -1000001) C dX10_removalOrder_11 k352 ?_
    exact r_iret C D rfl (Nat.zero_le _) (Nat.zero_le _) dX10_removalOrder_13 w
  · have w := w.2 hc
    refine r_iload_n C dX10_removalOrder_7 rfl 2 rfl ?_
    refine r_if_ge C dX10_removalOrder_8 (tgt := 14) rfl (fun hc => ?_) (fun hc => ?_)
    · have w := w.1 hc
      refine r_iconst (v := 0) C dX10_removalOrder_14 rfl ?_
      refine r_istore_n C dX10_removalOrder_15 rfl (by decide) rfl ?_
      exact r_sub [1, 2, 3, 0] rfl (g16 h2 l0 l1 l2 (0 : Int32) w)
    · have w := w.2 hc
      refine r_ldc (v := -1000001) C dX10_removalOrder_11 k352 ?_
      exact r_iret C D rfl (Nat.zero_le _) (Nat.zero_le _) dX10_removalOrder_13 w
theorem eX10_removalOrder {E : EV} {post : Option AV → AH → Prop} {h : AH} {l0 : Option Nat} {l1 : Int32} {l2 : Int32} {J16 : AH → Option Nat → Int32 → Int32 → Int32 → Prop} (g16 : ∀ X : AX, Cb E X cX10_removalOrder RX10 6 rmX10_removalOrder → Cr E X (some .int) rmX10_removalOrder "removalOrder" post → ∀ (h : AH) (l0 : Option Nat) (l1 : Int32) (l2 : Int32) (l3 : Int32), J16 h l0 l1 l2 l3 → Go E X 6 0 0 16 [(0, aP l0), (1, aI l1), (2, aI l2), (3, aI l3)] [] h) (w : PX10_removalOrder_0 E post J16 h l0 l1 l2) : sX10_removalOrder E [aP l0, aI l1, aI l2] h post := Spec.of RX10 rfl rfl (Nat.le_of_ble_eq_true rfl) fun X C D => bX10_removalOrder_0 C D (g16 X C D) w
theorem dX10_removeItem_0 : decode cX10_removeItem 0 = .ok (.aload_n 0, 1) := by decide +kernel
theorem dX10_removeItem_1 : decode cX10_removeItem 1 = .ok (.iload_n 1, 1) := by decide +kernel
theorem dX10_removeItem_2 : decode cX10_removeItem 2 = .ok (.invokevirtual 258, 3) := by decide +kernel
theorem dX10_removeItem_5 : decode cX10_removeItem 5 = .ok (.ifCond .ne 6, 3) := by decide +kernel
theorem dX10_removeItem_8 : decode cX10_removeItem 8 = .ok (.ldc 88, 2) := by decide +kernel
theorem dX10_removeItem_10 : decode cX10_removeItem 10 = .ok (.ireturn, 1) := by decide +kernel
theorem dX10_removeItem_11 : decode cX10_removeItem 11 = .ok (.aload_n 0, 1) := by decide +kernel
theorem dX10_removeItem_12 : decode cX10_removeItem 12 = .ok (.getfield 62, 3) := by decide +kernel
theorem dX10_removeItem_15 : decode cX10_removeItem 15 = .ok (.aload_n 0, 1) := by decide +kernel
theorem dX10_removeItem_16 : decode cX10_removeItem 16 = .ok (.getfield 52, 3) := by decide +kernel
theorem dX10_removeItem_19 : decode cX10_removeItem 19 = .ok (.invokevirtual 125, 3) := by decide +kernel
theorem dX10_removeItem_22 : decode cX10_removeItem 22 = .ok (.aload_n 0, 1) := by decide +kernel
theorem dX10_removeItem_23 : decode cX10_removeItem 23 = .ok (.getfield 52, 3) := by decide +kernel
theorem dX10_removeItem_26 : decode cX10_removeItem 26 = .ok (.iload_n 1, 1) := by decide +kernel
theorem dX10_removeItem_27 : decode cX10_removeItem 27 = .ok (.invokevirtual 271, 3) := by decide +kernel
theorem dX10_removeItem_30 : decode cX10_removeItem 30 = .ok (.aload_n 0, 1) := by decide +kernel
theorem dX10_removeItem_31 : decode cX10_removeItem 31 = .ok (.getfield 52, 3) := by decide +kernel
theorem dX10_removeItem_34 : decode cX10_removeItem 34 = .ok (.getfield 218, 3) := by decide +kernel
theorem dX10_removeItem_37 : decode cX10_removeItem 37 = .ok (.ireturn, 1) := by decide +kernel
abbrev rmX10_removeItem : Room := { frames := 4, cells := 0, slots := 0, locals := 160 }
abbrev sX10_removeItem (E : EV) : List AV → AH → (Option AV → AH → Prop) → Prop := Spec E yX10_removeItem cX10_removeItem 2 (some .int) rmX10_removeItem
theorem mX10_removeItem : Mt yX10_removeItem cX10_removeItem 2 (some .int) 1 := ⟨k851, k1, by decide +kernel⟩
theorem vX10_removeItem : MtV yX10_removeItem 10 := ⟨k849, k850, by decide, (RX10, TX10, 12), rfl, rfl⟩
def PX10_removeItem_0 (E : EV) (post : Option AV → AH → Prop) (h : AH) (l0 : Option Nat) (l1 : Int32) : Prop :=
  CV (sX10_isItem E) l0 10 [aI l1] h (kI fun x1 h2 => (¬ x1 = 0 → rdP h2 l0 10 7 fun x3 => rdP h2 l0 10 5 fun x4 => CV (sX1_save E) x3 1 [aP x4] h2 (kV fun h6 => rdP h6 l0 10 5 fun x7 => CV (sX8_remove E) x7 8 [aI l1] h6 (kV fun h9 => rdP h9 l0 10 5 fun x10 => rdI h9 x10 8 5 fun x11 => post (some (aI x11)) h9))) ∧ (x1 = 0 → post (some (aI (-1000001 : Int32))) h2))
theorem bX10_removeItem_0 {E : EV} {X : AX} {post : Option AV → AH → Prop} (C : Cb E X cX10_removeItem RX10 2 rmX10_removeItem) (D : Cr E X (some .int) rmX10_removeItem "removeItem" post) {h : AH} {l0 : Option Nat} {l1 : Int32} (w : PX10_removeItem_0 E post h l0 l1) : Go E X 2 0 0 0 [(0, aP l0), (1, aI l1)] [] h := by
  unfold PX10_removeItem_0 at w
  refine r_aload_n C dX10_removeItem_0 rfl 0 rfl ?_
  refine r_iload_n C dX10_removeItem_1 rfl 1 rfl ?_
  refine r_cvI (rm' := rmX10_isItem) C mX10_isItem vX10_isItem k834 [aI l1] [] rfl rfl (Nat.le_of_ble_eq_true rfl) (by decide) ⟨Nat.zero_le _, Nat.zero_le _⟩ 0 0 rfl rfl dX10_removeItem_2 w (fun x1 h2 w => ?_)
  refine r_if_ne C dX10_removeItem_5 (tgt := 11) rfl (fun hc => ?_) (fun hc => ?_)
  · have w := w.1 hc
    refine r_aload_n C dX10_removeItem_11 rfl 0 rfl ?_
    refine r_getP C fcX10 (f := 7) (by decide) rfl k318 dX10_removeItem_12 (w.mono fun x3 w => ?_)
    refine r_aload_n C dX10_removeItem_15 rfl 0 rfl ?_
    refine r_getP C fcX10 (f := 5) (by decide) rfl k316 dX10_removeItem_16 (w.mono fun x4 w => ?_)
    refine r_cvV (rm' := rmX1_save) C mX1_save vX1_save k489 [aP x4] [] rfl rfl (Nat.le_of_ble_eq_true rfl) (by decide) ⟨Nat.zero_le _, Nat.zero_le _⟩ 0 0 rfl rfl dX10_removeItem_19 w (fun h6 w => ?_)
    refine r_aload_n C dX10_removeItem_22 rfl 0 rfl ?_
    refine r_getP C fcX10 (f := 5) (by decide) rfl k316 dX10_removeItem_23 (w.mono fun x7 w => ?_)
    refine r_iload_n C dX10_removeItem_26 rfl 1 rfl ?_
    refine r_cvV (rm' := rmX8_remove) C mX8_remove vX8_remove k852 [aI l1] [] rfl rfl (Nat.le_of_ble_eq_true rfl) (by decide) ⟨Nat.zero_le _, Nat.zero_le _⟩ 0 0 rfl rfl dX10_removeItem_27 w (fun h9 w => ?_)
    refine r_aload_n C dX10_removeItem_30 rfl 0 rfl ?_
    refine r_getP C fcX10 (f := 5) (by decide) rfl k316 dX10_removeItem_31 (w.mono fun x10 w => ?_)
    refine r_getI C fcX8 (f := 5) (by decide) rfl k261 dX10_removeItem_34 (w.mono fun x11 w => ?_)
    exact r_iret C D rfl (Nat.zero_le _) (Nat.zero_le _) dX10_removeItem_37 w
  · have w := w.2 hc
    refine r_ldc (v := -1000001) C dX10_removeItem_8 k352 ?_
    exact r_iret C D rfl (Nat.zero_le _) (Nat.zero_le _) dX10_removeItem_10 w
theorem eX10_removeItem {E : EV} {post : Option AV → AH → Prop} {h : AH} {l0 : Option Nat} {l1 : Int32} (w : PX10_removeItem_0 E post h l0 l1) : sX10_removeItem E [aP l0, aI l1] h post := Spec.of RX10 rfl rfl (Nat.le_of_ble_eq_true rfl) fun X C D => bX10_removeItem_0 C D w
theorem dX10_setClearance_0 : decode cX10_setClearance 0 = .ok (.iload_n 1, 1) := by decide +kernel
theorem dX10_setClearance_1 : decode cX10_setClearance 1 = .ok (.ifCond .lt 8, 3) := by decide +kernel
theorem dX10_setClearance_4 : decode cX10_setClearance 4 = .ok (.iload_n 1, 1) := by decide +kernel
theorem dX10_setClearance_5 : decode cX10_setClearance 5 = .ok (.iconst 5, 1) := by decide +kernel
theorem dX10_setClearance_6 : decode cX10_setClearance 6 = .ok (.if_icmp .le 6, 3) := by decide +kernel
theorem dX10_setClearance_9 : decode cX10_setClearance 9 = .ok (.ldc 88, 2) := by decide +kernel
theorem dX10_setClearance_11 : decode cX10_setClearance 11 = .ok (.ireturn, 1) := by decide +kernel
theorem dX10_setClearance_12 : decode cX10_setClearance 12 = .ok (.aload_n 0, 1) := by decide +kernel
theorem dX10_setClearance_13 : decode cX10_setClearance 13 = .ok (.getfield 56, 3) := by decide +kernel
theorem dX10_setClearance_16 : decode cX10_setClearance 16 = .ok (.aload_n 0, 1) := by decide +kernel
theorem dX10_setClearance_17 : decode cX10_setClearance 17 = .ok (.getfield 52, 3) := by decide +kernel
theorem dX10_setClearance_20 : decode cX10_setClearance 20 = .ok (.invokevirtual 209, 3) := by decide +kernel
theorem dX10_setClearance_23 : decode cX10_setClearance 23 = .ok (.aload_n 0, 1) := by decide +kernel
theorem dX10_setClearance_24 : decode cX10_setClearance 24 = .ok (.getfield 52, 3) := by decide +kernel
theorem dX10_setClearance_27 : decode cX10_setClearance 27 = .ok (.iload_n 1, 1) := by decide +kernel
theorem dX10_setClearance_28 : decode cX10_setClearance 28 = .ok (.putfield 212, 3) := by decide +kernel
theorem dX10_setClearance_31 : decode cX10_setClearance 31 = .ok (.aload_n 0, 1) := by decide +kernel
theorem dX10_setClearance_32 : decode cX10_setClearance 32 = .ok (.invokevirtual 215, 3) := by decide +kernel
theorem dX10_setClearance_35 : decode cX10_setClearance 35 = .ok (.ifCond .ne 17, 3) := by decide +kernel
theorem dX10_setClearance_38 : decode cX10_setClearance 38 = .ok (.aload_n 0, 1) := by decide +kernel
theorem dX10_setClearance_39 : decode cX10_setClearance 39 = .ok (.getfield 52, 3) := by decide +kernel
theorem dX10_setClearance_42 : decode cX10_setClearance 42 = .ok (.aload_n 0, 1) := by decide +kernel
theorem dX10_setClearance_43 : decode cX10_setClearance 43 = .ok (.getfield 56, 3) := by decide +kernel
theorem dX10_setClearance_46 : decode cX10_setClearance 46 = .ok (.invokevirtual 209, 3) := by decide +kernel
theorem dX10_setClearance_49 : decode cX10_setClearance 49 = .ok (.ldc 124, 2) := by decide +kernel
theorem dX10_setClearance_51 : decode cX10_setClearance 51 = .ok (.ireturn, 1) := by decide +kernel
theorem dX10_setClearance_52 : decode cX10_setClearance 52 = .ok (.aload_n 0, 1) := by decide +kernel
theorem dX10_setClearance_53 : decode cX10_setClearance 53 = .ok (.getfield 62, 3) := by decide +kernel
theorem dX10_setClearance_56 : decode cX10_setClearance 56 = .ok (.aload_n 0, 1) := by decide +kernel
theorem dX10_setClearance_57 : decode cX10_setClearance 57 = .ok (.getfield 56, 3) := by decide +kernel
theorem dX10_setClearance_60 : decode cX10_setClearance 60 = .ok (.invokevirtual 125, 3) := by decide +kernel
theorem dX10_setClearance_63 : decode cX10_setClearance 63 = .ok (.aload_n 0, 1) := by decide +kernel
theorem dX10_setClearance_64 : decode cX10_setClearance 64 = .ok (.getfield 56, 3) := by decide +kernel
theorem dX10_setClearance_67 : decode cX10_setClearance 67 = .ok (.getfield 212, 3) := by decide +kernel
theorem dX10_setClearance_70 : decode cX10_setClearance 70 = .ok (.ireturn, 1) := by decide +kernel
abbrev rmX10_setClearance : Room := { frames := 6, cells := 0, slots := 0, locals := 240 }
abbrev sX10_setClearance (E : EV) : List AV → AH → (Option AV → AH → Prop) → Prop := Spec E yX10_setClearance cX10_setClearance 2 (some .int) rmX10_setClearance
theorem mX10_setClearance : Mt yX10_setClearance cX10_setClearance 2 (some .int) 1 := ⟨k719, k1, by decide +kernel⟩
theorem vX10_setClearance : MtV yX10_setClearance 10 := ⟨k717, k718, by decide, (RX10, TX10, 12), rfl, rfl⟩
def PX10_setClearance_0 (E : EV) (post : Option AV → AH → Prop) (h : AH) (l0 : Option Nat) (l1 : Int32) : Prop :=
  (l1 < 0 → post (some (aI (-1000001 : Int32))) h) ∧ (¬ l1 < 0 → (l1 ≤ (5 : Int32) → rdP h l0 10 6 fun x1 => rdP h l0 10 5 fun x2 => CV (sX8_copy E) x1 8 [aP x2] h (kV fun h4 => rdP h4 l0 10 5 fun x5 => wr h4 x5 8 8 (aI l1) fun h6 => CV (sX10_allItemsFit E) l0 10 [] h6 (kI fun x7 h8 => (¬ x7 = 0 → rdP h8 l0 10 7 fun x9 => rdP h8 l0 10 6 fun x10 => CV (sX1_save E) x9 1 [aP x10] h8 (kV fun h12 => rdP h12 l0 10 6 fun x13 => rdI h12 x13 8 8 fun x14 => post (some (aI x14)) h12)) ∧ (x7 = 0 → rdP h8 l0 10 5 fun x9 => rdP h8 l0 10 6 fun x10 => CV (sX8_copy E) x9 8 [aP x10] h8 (kV fun h12 => post (some (aI (-1000002 : Int32))) h12))))) ∧ (¬ l1 ≤ (5 : Int32) → post (some (aI (-1000001 : Int32))) h))
theorem bX10_setClearance_0 {E : EV} {X : AX} {post : Option AV → AH → Prop} (C : Cb E X cX10_setClearance RX10 2 rmX10_setClearance) (D : Cr E X (some .int) rmX10_setClearance "setClearance" post) {h : AH} {l0 : Option Nat} {l1 : Int32} (w : PX10_setClearance_0 E post h l0 l1) : Go E X 2 0 0 0 [(0, aP l0), (1, aI l1)] [] h := by
  unfold PX10_setClearance_0 at w
  refine r_iload_n C dX10_setClearance_0 rfl 1 rfl ?_
  refine r_if_lt C dX10_setClearance_1 (tgt := 9) rfl (fun hc => ?_) (fun hc => ?_)
  · have w := w.1 hc
    refine r_ldc (v := -1000001) C dX10_setClearance_9 k352 ?_
    exact r_iret C D rfl (Nat.zero_le _) (Nat.zero_le _) dX10_setClearance_11 w
  · have w := w.2 hc
    refine r_iload_n C dX10_setClearance_4 rfl 1 rfl ?_
    refine r_iconst (v := 5) C dX10_setClearance_5 rfl ?_
    refine r_icmp_le C dX10_setClearance_6 (tgt := 12) rfl (fun hc => ?_) (fun hc => ?_)
    · have w := w.1 hc
      refine r_aload_n C dX10_setClearance_12 rfl 0 rfl ?_
      refine r_getP C fcX10 (f := 6) (by decide) rfl k317 dX10_setClearance_13 (w.mono fun x1 w => ?_)
      refine r_aload_n C dX10_setClearance_16 rfl 0 rfl ?_
      refine r_getP C fcX10 (f := 5) (by decide) rfl k316 dX10_setClearance_17 (w.mono fun x2 w => ?_)
      refine r_cvV (rm' := rmX8_copy) C mX8_copy vX8_copy k720 [aP x2] [] rfl rfl (Nat.le_of_ble_eq_true rfl) (by decide) ⟨Nat.zero_le _, Nat.zero_le _⟩ 0 0 rfl rfl dX10_setClearance_20 w (fun h4 w => ?_)
      refine r_aload_n C dX10_setClearance_23 rfl 0 rfl ?_
      refine r_getP C fcX10 (f := 5) (by decide) rfl k316 dX10_setClearance_24 (w.mono fun x5 w => ?_)
      refine r_iload_n C dX10_setClearance_27 rfl 1 rfl ?_
      refine r_put C fcX8 (f := 8) (by decide) rfl rfl rfl rfl k270 dX10_setClearance_28 (w.mono fun h6 w => ?_)
      refine r_aload_n C dX10_setClearance_31 rfl 0 rfl ?_
      refine r_cvI (rm' := rmX10_allItemsFit) C mX10_allItemsFit vX10_allItemsFit k721 [] [] rfl rfl (Nat.le_of_ble_eq_true rfl) (by decide) ⟨Nat.zero_le _, Nat.zero_le _⟩ 0 0 rfl rfl dX10_setClearance_32 w (fun x7 h8 w => ?_)
      refine r_if_ne C dX10_setClearance_35 (tgt := 52) rfl (fun hc => ?_) (fun hc => ?_)
      · have w := w.1 hc
        refine r_aload_n C dX10_setClearance_52 rfl 0 rfl ?_
        refine r_getP C fcX10 (f := 7) (by decide) rfl k318 dX10_setClearance_53 (w.mono fun x9 w => ?_)
        refine r_aload_n C dX10_setClearance_56 rfl 0 rfl ?_
        refine r_getP C fcX10 (f := 6) (by decide) rfl k317 dX10_setClearance_57 (w.mono fun x10 w => ?_)
        refine r_cvV (rm' := rmX1_save) C mX1_save vX1_save k489 [aP x10] [] rfl rfl (Nat.le_of_ble_eq_true rfl) (by decide) ⟨Nat.zero_le _, Nat.zero_le _⟩ 0 0 rfl rfl dX10_setClearance_60 w (fun h12 w => ?_)
        refine r_aload_n C dX10_setClearance_63 rfl 0 rfl ?_
        refine r_getP C fcX10 (f := 6) (by decide) rfl k317 dX10_setClearance_64 (w.mono fun x13 w => ?_)
        refine r_getI C fcX8 (f := 8) (by decide) rfl k270 dX10_setClearance_67 (w.mono fun x14 w => ?_)
        exact r_iret C D rfl (Nat.zero_le _) (Nat.zero_le _) dX10_setClearance_70 w
      · have w := w.2 hc
        refine r_aload_n C dX10_setClearance_38 rfl 0 rfl ?_
        refine r_getP C fcX10 (f := 5) (by decide) rfl k316 dX10_setClearance_39 (w.mono fun x9 w => ?_)
        refine r_aload_n C dX10_setClearance_42 rfl 0 rfl ?_
        refine r_getP C fcX10 (f := 6) (by decide) rfl k317 dX10_setClearance_43 (w.mono fun x10 w => ?_)
        refine r_cvV (rm' := rmX8_copy) C mX8_copy vX8_copy k720 [aP x10] [] rfl rfl (Nat.le_of_ble_eq_true rfl) (by decide) ⟨Nat.zero_le _, Nat.zero_le _⟩ 0 0 rfl rfl dX10_setClearance_46 w (fun h12 w => ?_)
        refine r_ldc (v := -1000002) C dX10_setClearance_49 k539 ?_
        exact r_iret C D rfl (Nat.zero_le _) (Nat.zero_le _) dX10_setClearance_51 w
    · have w := w.2 hc
      refine r_ldc (v := -1000001) C dX10_setClearance_9 k352 ?_
      exact r_iret C D rfl (Nat.zero_le _) (Nat.zero_le _) dX10_setClearance_11 w
theorem eX10_setClearance {E : EV} {post : Option AV → AH → Prop} {h : AH} {l0 : Option Nat} {l1 : Int32} (w : PX10_setClearance_0 E post h l0 l1) : sX10_setClearance E [aP l0, aI l1] h post := Spec.of RX10 rfl rfl (Nat.le_of_ble_eq_true rfl) fun X C D => bX10_setClearance_0 C D w
theorem dX10_setContainer_0 : decode cX10_setContainer 0 = .ok (.iload_n 1, 1) := by decide +kernel
theorem dX10_setContainer_1 : decode cX10_setContainer 1 = .ok (.iconst 1, 1) := by decide +kernel
theorem dX10_setContainer_2 : decode cX10_setContainer 2 = .ok (.if_icmp .lt 20, 3) := by decide +kernel
theorem dX10_setContainer_5 : decode cX10_setContainer 5 = .ok (.iload_n 1, 1) := by decide +kernel
theorem dX10_setContainer_6 : decode cX10_setContainer 6 = .ok (.bipush 40, 2) := by decide +kernel
theorem dX10_setContainer_8 : decode cX10_setContainer 8 = .ok (.if_icmp .gt 14, 3) := by decide +kernel
theorem dX10_setContainer_11 : decode cX10_setContainer 11 = .ok (.iload_n 2, 1) := by decide +kernel
theorem dX10_setContainer_12 : decode cX10_setContainer 12 = .ok (.iconst 1, 1) := by decide +kernel
theorem dX10_setContainer_13 : decode cX10_setContainer 13 = .ok (.if_icmp .lt 9, 3) := by decide +kernel
theorem dX10_setContainer_16 : decode cX10_setContainer 16 = .ok (.iload_n 2, 1) := by decide +kernel
theorem dX10_setContainer_17 : decode cX10_setContainer 17 = .ok (.bipush 40, 2) := by decide +kernel
theorem dX10_setContainer_19 : decode cX10_setContainer 19 = .ok (.if_icmp .le 6, 3) := by decide +kernel
theorem dX10_setContainer_22 : decode cX10_setContainer 22 = .ok (.ldc 88, 2) := by decide +kernel
theorem dX10_setContainer_24 : decode cX10_setContainer 24 = .ok (.ireturn, 1) := by decide +kernel
theorem dX10_setContainer_25 : decode cX10_setContainer 25 = .ok (.aload_n 0, 1) := by decide +kernel
theorem dX10_setContainer_26 : decode cX10_setContainer 26 = .ok (.getfield 62, 3) := by decide +kernel
theorem dX10_setContainer_29 : decode cX10_setContainer 29 = .ok (.aload_n 0, 1) := by decide +kernel
theorem dX10_setContainer_30 : decode cX10_setContainer 30 = .ok (.getfield 52, 3) := by decide +kernel
theorem dX10_setContainer_33 : decode cX10_setContainer 33 = .ok (.invokevirtual 125, 3) := by decide +kernel
theorem dX10_setContainer_36 : decode cX10_setContainer 36 = .ok (.aload_n 0, 1) := by decide +kernel
theorem dX10_setContainer_37 : decode cX10_setContainer 37 = .ok (.getfield 52, 3) := by decide +kernel
theorem dX10_setContainer_40 : decode cX10_setContainer 40 = .ok (.getfield 218, 3) := by decide +kernel
theorem dX10_setContainer_43 : decode cX10_setContainer 43 = .ok (.istore_n 3, 1) := by decide +kernel
theorem dX10_setContainer_44 : decode cX10_setContainer 44 = .ok (.aload_n 0, 1) := by decide +kernel
theorem dX10_setContainer_45 : decode cX10_setContainer 45 = .ok (.getfield 52, 3) := by decide +kernel
theorem dX10_setContainer_48 : decode cX10_setContainer 48 = .ok (.iload_n 1, 1) := by decide +kernel
theorem dX10_setContainer_49 : decode cX10_setContainer 49 = .ok (.putfield 221, 3) := by decide +kernel
theorem dX10_setContainer_52 : decode cX10_setContainer 52 = .ok (.aload_n 0, 1) := by decide +kernel
theorem dX10_setContainer_53 : decode cX10_setContainer 53 = .ok (.getfield 52, 3) := by decide +kernel
theorem dX10_setContainer_56 : decode cX10_setContainer 56 = .ok (.iload_n 2, 1) := by decide +kernel
theorem dX10_setContainer_57 : decode cX10_setContainer 57 = .ok (.putfield 224, 3) := by decide +kernel
theorem dX10_setContainer_60 : decode cX10_setContainer 60 = .ok (.aload_n 0, 1) := by decide +kernel
theorem dX10_setContainer_61 : decode cX10_setContainer 61 = .ok (.getfield 52, 3) := by decide +kernel
theorem dX10_setContainer_64 : decode cX10_setContainer 64 = .ok (.iconst 0, 1) := by decide +kernel
theorem dX10_setContainer_65 : decode cX10_setContainer 65 = .ok (.putfield 218, 3) := by decide +kernel
theorem dX10_setContainer_68 : decode cX10_setContainer 68 = .ok (.iload_n 3, 1) := by decide +kernel
theorem dX10_setContainer_69 : decode cX10_setContainer 69 = .ok (.ireturn, 1) := by decide +kernel
abbrev rmX10_setContainer : Room := { frames := 4, cells := 0, slots := 0, locals := 160 }
abbrev sX10_setContainer (E : EV) : List AV → AH → (Option AV → AH → Prop) → Prop := Spec E yX10_setContainer cX10_setContainer 4 (some .int) rmX10_setContainer
theorem mX10_setContainer : Mt yX10_setContainer cX10_setContainer 4 (some .int) 2 := ⟨k753, k1, by decide +kernel⟩
theorem vX10_setContainer : MtV yX10_setContainer 10 := ⟨k751, k752, by decide, (RX10, TX10, 12), rfl, rfl⟩
def PX10_setContainer_0 (E : EV) (post : Option AV → AH → Prop) (h : AH) (l0 : Option Nat) (l1 : Int32) (l2 : Int32) : Prop :=
  (l1 < (1 : Int32) → post (some (aI (-1000001 : Int32))) h) ∧ (¬ l1 < (1 : Int32) → ((40 : Int32) < l1 → post (some (aI (-1000001 : Int32))) h) ∧ (¬ (40 : Int32) < l1 → (l2 < (1 : Int32) → post (some (aI (-1000001 : Int32))) h) ∧ (¬ l2 < (1 : Int32) → (l2 ≤ (40 : Int32) → rdP h l0 10 7 fun x1 => rdP h l0 10 5 fun x2 => CV (sX1_save E) x1 1 [aP x2] h (kV fun h4 => rdP h4 l0 10 5 fun x5 => rdI h4 x5 8 5 fun x6 => rdP h4 l0 10 5 fun x8 => wr h4 x8 8 6 (aI l1) fun h9 => rdP h9 l0 10 5 fun x10 => wr h9 x10 8 7 (aI l2) fun h11 => rdP h11 l0 10 5 fun x12 => wr h11 x12 8 5 (aI (0 : Int32)) fun h13 => post (some (aI x6)) h13)) ∧ (¬ l2 ≤ (40 : Int32) → post (some (aI (-1000001 : Int32))) h))))
theorem bX10_setContainer_0 {E : EV} {X : AX} {post : Option AV → AH → Prop} (C : Cb E X cX10_setContainer RX10 4 rmX10_setContainer) (D : Cr E X (some .int) rmX10_setContainer "setContainer" post) {h : AH} {l0 : Option Nat} {l1 : Int32} {l2 : Int32} (w : PX10_setContainer_0 E post h l0 l1 l2) : Go E X 4 0 0 0 [(0, aP l0), (1, aI l1), (2, aI l2)] [] h := by
  unfold PX10_setContainer_0 at w
  refine r_iload_n C dX10_setContainer_0 rfl 1 rfl ?_
  refine r_iconst (v := 1) C dX10_setContainer_1 rfl ?_
  refine r_icmp_lt C dX10_setContainer_2 (tgt := 22) rfl (fun hc => ?_) (fun hc => ?_)
  · have w := w.1 hc
    refine r_ldc (v := -1000001) C dX10_setContainer_22 k352 ?_
    exact r_iret C D rfl (Nat.zero_le _) (Nat.zero_le _) dX10_setContainer_24 w
  · have w := w.2 hc
    refine r_iload_n C dX10_setContainer_5 rfl 1 rfl ?_
    refine r_bipush (v := 40) C dX10_setContainer_6 rfl ?_
    refine r_icmp_gt C dX10_setContainer_8 (tgt := 22) rfl (fun hc => ?_) (fun hc => ?_)
    · have w := w.1 hc
      refine r_ldc (v := -1000001) C dX10_setContainer_22 k352 ?_
      exact r_iret C D rfl (Nat.zero_le _) (Nat.zero_le _) dX10_setContainer_24 w
    · have w := w.2 hc
      refine r_iload_n C dX10_setContainer_11 rfl 2 rfl ?_
      refine r_iconst (v := 1) C dX10_setContainer_12 rfl ?_
      refine r_icmp_lt C dX10_setContainer_13 (tgt := 22) rfl (fun hc => ?_) (fun hc => ?_)
      · have w := w.1 hc
        refine r_ldc (v := -1000001) C dX10_setContainer_22 k352 ?_
        exact r_iret C D rfl (Nat.zero_le _) (Nat.zero_le _) dX10_setContainer_24 w
      · have w := w.2 hc
        refine r_iload_n C dX10_setContainer_16 rfl 2 rfl ?_
        refine r_bipush (v := 40) C dX10_setContainer_17 rfl ?_
        refine r_icmp_le C dX10_setContainer_19 (tgt := 25) rfl (fun hc => ?_) (fun hc => ?_)
        · have w := w.1 hc
          refine r_aload_n C dX10_setContainer_25 rfl 0 rfl ?_
          refine r_getP C fcX10 (f := 7) (by decide) rfl k318 dX10_setContainer_26 (w.mono fun x1 w => ?_)
          refine r_aload_n C dX10_setContainer_29 rfl 0 rfl ?_
          refine r_getP C fcX10 (f := 5) (by decide) rfl k316 dX10_setContainer_30 (w.mono fun x2 w => ?_)
          refine r_cvV (rm' := rmX1_save) C mX1_save vX1_save k489 [aP x2] [] rfl rfl (Nat.le_of_ble_eq_true rfl) (by decide) ⟨Nat.zero_le _, Nat.zero_le _⟩ 0 0 rfl rfl dX10_setContainer_33 w (fun h4 w => ?_)
          refine r_aload_n C dX10_setContainer_36 rfl 0 rfl ?_
          refine r_getP C fcX10 (f := 5) (by decide) rfl k316 dX10_setContainer_37 (w.mono fun x5 w => ?_)
          refine r_getI C fcX8 (f := 5) (by decide) rfl k261 dX10_setContainer_40 (w.mono fun x6 w => ?_)
          refine r_istore_n C dX10_setContainer_43 rfl (by decide) rfl ?_
          refine r_aload_n C dX10_setContainer_44 rfl 1 rfl ?_
          refine r_getP C fcX10 (f := 5) (by decide) rfl k316 dX10_setContainer_45 (w.mono fun x8 w => ?_)
          refine r_iload_n C dX10_setContainer_48 rfl 2 rfl ?_
          refine r_put C fcX8 (f := 6) (by decide) rfl rfl rfl rfl k264 dX10_setContainer_49 (w.mono fun h9 w => ?_)
          refine r_aload_n C dX10_setContainer_52 rfl 1 rfl ?_
          refine r_getP C fcX10 (f := 5) (by decide) rfl k316 dX10_setContainer_53 (w.mono fun x10 w => ?_)
          refine r_iload_n C dX10_setContainer_56 rfl 3 rfl ?_
          refine r_put C fcX8 (f := 7) (by decide) rfl rfl rfl rfl k267 dX10_setContainer_57 (w.mono fun h11 w => ?_)
          refine r_aload_n C dX10_setContainer_60 rfl 1 rfl ?_
          refine r_getP C fcX10 (f := 5) (by decide) rfl k316 dX10_setContainer_61 (w.mono fun x12 w => ?_)
          refine r_iconst (v := 0) C dX10_setContainer_64 rfl ?_
          refine r_put C fcX8 (f := 5) (by decide) rfl rfl rfl rfl k261 dX10_setContainer_65 (w.mono fun h13 w => ?_)
          refine r_iload_n C dX10_setContainer_68 rfl 0 rfl ?_
          exact r_iret C D rfl (Nat.zero_le _) (Nat.zero_le _) dX10_setContainer_69 w
        · have w := w.2 hc
          refine r_ldc (v := -1000001) C dX10_setContainer_22 k352 ?_
          exact r_iret C D rfl (Nat.zero_le _) (Nat.zero_le _) dX10_setContainer_24 w
theorem eX10_setContainer {E : EV} {post : Option AV → AH → Prop} {h : AH} {l0 : Option Nat} {l1 : Int32} {l2 : Int32} (w : PX10_setContainer_0 E post h l0 l1 l2) : sX10_setContainer E [aP l0, aI l1, aI l2] h post := Spec.of RX10 rfl rfl (Nat.le_of_ble_eq_true rfl) fun X C D => bX10_setContainer_0 C D w
theorem dX10_slide_0 : decode cX10_slide 0 = .ok (.iload_n 1, 1) := by decide +kernel
theorem dX10_slide_1 : decode cX10_slide 1 = .ok (.invokestatic 98, 3) := by decide +kernel
theorem dX10_slide_4 : decode cX10_slide 4 = .ok (.ifCond .eq 14, 3) := by decide +kernel
theorem dX10_slide_7 : decode cX10_slide 7 = .ok (.iload_n 2, 1) := by decide +kernel
theorem dX10_slide_8 : decode cX10_slide 8 = .ok (.invokestatic 98, 3) := by decide +kernel
theorem dX10_slide_11 : decode cX10_slide 11 = .ok (.ifCond .eq 7, 3) := by decide +kernel
theorem dX10_slide_14 : decode cX10_slide 14 = .ok (.iconst 1, 1) := by decide +kernel
theorem dX10_slide_15 : decode cX10_slide 15 = .ok (.goto 4, 3) := by decide +kernel
theorem dX10_slide_18 : decode cX10_slide 18 = .ok (.iconst 0, 1) := by decide +kernel
theorem dX10_slide_19 : decode cX10_slide 19 = .ok (.istore 7, 2) := by decide +kernel
theorem dX10_slide_21 : decode cX10_slide 21 = .ok (.iload 7, 2) := by decide +kernel
theorem dX10_slide_23 : decode cX10_slide 23 = .ok (.ifCond .eq 34, 3) := by decide +kernel
theorem dX10_slide_26 : decode cX10_slide 26 = .ok (.iload_n 3, 1) := by decide +kernel
theorem dX10_slide_27 : decode cX10_slide 27 = .ok (.invokestatic 185, 3) := by decide +kernel
theorem dX10_slide_30 : decode cX10_slide 30 = .ok (.ifCond .eq 27, 3) := by decide +kernel
theorem dX10_slide_33 : decode cX10_slide 33 = .ok (.iload 4, 2) := by decide +kernel
theorem dX10_slide_35 : decode cX10_slide 35 = .ok (.invokestatic 185, 3) := by decide +kernel
theorem dX10_slide_38 : decode cX10_slide 38 = .ok (.ifCond .eq 19, 3) := by decide +kernel
theorem dX10_slide_41 : decode cX10_slide 41 = .ok (.iload 5, 2) := by decide +kernel
theorem dX10_slide_43 : decode cX10_slide 43 = .ok (.invokestatic 168, 3) := by decide +kernel
theorem dX10_slide_46 : decode cX10_slide 46 = .ok (.ifCond .eq 11, 3) := by decide +kernel
theorem dX10_slide_49 : decode cX10_slide 49 = .ok (.iload 6, 2) := by decide +kernel
theorem dX10_slide_51 : decode cX10_slide 51 = .ok (.invokestatic 157, 3) := by decide +kernel
theorem dX10_slide_54 : decode cX10_slide 54 = .ok (.ifCond .ne 6, 3) := by decide +kernel
theorem dX10_slide_57 : decode cX10_slide 57 = .ok (.ldc 88, 2) := by decide +kernel
theorem dX10_slide_59 : decode cX10_slide 59 = .ok (.ireturn, 1) := by decide +kernel
theorem dX10_slide_60 : decode cX10_slide 60 = .ok (.aload_n 0, 1) := by decide +kernel
theorem dX10_slide_61 : decode cX10_slide 61 = .ok (.iload_n 1, 1) := by decide +kernel
theorem dX10_slide_62 : decode cX10_slide 62 = .ok (.invokevirtual 188, 3) := by decide +kernel
theorem dX10_slide_65 : decode cX10_slide 65 = .ok (.ifCond .ne 11, 3) := by decide +kernel
theorem dX10_slide_68 : decode cX10_slide 68 = .ok (.aload_n 0, 1) := by decide +kernel
theorem dX10_slide_69 : decode cX10_slide 69 = .ok (.iload_n 2, 1) := by decide +kernel
theorem dX10_slide_70 : decode cX10_slide 70 = .ok (.invokevirtual 188, 3) := by decide +kernel
theorem dX10_slide_73 : decode cX10_slide 73 = .ok (.ifCond .eq 6, 3) := by decide +kernel
theorem dX10_slide_76 : decode cX10_slide 76 = .ok (.ldc 124, 2) := by decide +kernel
theorem dX10_slide_78 : decode cX10_slide 78 = .ok (.ireturn, 1) := by decide +kernel
theorem dX10_slide_79 : decode cX10_slide 79 = .ok (.aload_n 0, 1) := by decide +kernel
theorem dX10_slide_80 : decode cX10_slide 80 = .ok (.getfield 52, 3) := by decide +kernel
theorem dX10_slide_83 : decode cX10_slide 83 = .ok (.iload_n 1, 1) := by decide +kernel
theorem dX10_slide_84 : decode cX10_slide 84 = .ok (.invokevirtual 116, 3) := by decide +kernel
theorem dX10_slide_87 : decode cX10_slide 87 = .ok (.astore 8, 2) := by decide +kernel
theorem dX10_slide_89 : decode cX10_slide 89 = .ok (.aload_n 0, 1) := by decide +kernel
theorem dX10_slide_90 : decode cX10_slide 90 = .ok (.getfield 52, 3) := by decide +kernel
theorem dX10_slide_93 : decode cX10_slide 93 = .ok (.iload_n 2, 1) := by decide +kernel
theorem dX10_slide_94 : decode cX10_slide 94 = .ok (.invokevirtual 116, 3) := by decide +kernel
theorem dX10_slide_97 : decode cX10_slide 97 = .ok (.astore 9, 2) := by decide +kernel
theorem dX10_slide_99 : decode cX10_slide 99 = .ok (.aload_n 0, 1) := by decide +kernel
theorem dX10_slide_100 : decode cX10_slide 100 = .ok (.getfield 36, 3) := by decide +kernel
theorem dX10_slide_103 : decode cX10_slide 103 = .ok (.aload 8, 2) := by decide +kernel
theorem dX10_slide_105 : decode cX10_slide 105 = .ok (.aload 9, 2) := by decide +kernel
theorem dX10_slide_107 : decode cX10_slide 107 = .ok (.iload_n 3, 1) := by decide +kernel
theorem dX10_slide_108 : decode cX10_slide 108 = .ok (.iload 4, 2) := by decide +kernel
theorem dX10_slide_110 : decode cX10_slide 110 = .ok (.invokevirtual 191, 3) := by decide +kernel
theorem dX10_slide_113 : decode cX10_slide 113 = .ok (.iconst 2, 1) := by decide +kernel
theorem dX10_slide_114 : decode cX10_slide 114 = .ok (.if_icmp .ne 6, 3) := by decide +kernel
theorem dX10_slide_117 : decode cX10_slide 117 = .ok (.ldc 124, 2) := by decide +kernel
theorem dX10_slide_119 : decode cX10_slide 119 = .ok (.ireturn, 1) := by decide +kernel
theorem dX10_slide_120 : decode cX10_slide 120 = .ok (.aload_n 0, 1) := by decide +kernel
theorem dX10_slide_121 : decode cX10_slide 121 = .ok (.getfield 36, 3) := by decide +kernel
theorem dX10_slide_124 : decode cX10_slide 124 = .ok (.aload 8, 2) := by decide +kernel
theorem dX10_slide_126 : decode cX10_slide 126 = .ok (.aload 9, 2) := by decide +kernel
theorem dX10_slide_128 : decode cX10_slide 128 = .ok (.iload_n 3, 1) := by decide +kernel
theorem dX10_slide_129 : decode cX10_slide 129 = .ok (.iload 4, 2) := by decide +kernel
theorem dX10_slide_131 : decode cX10_slide 131 = .ok (.iload 5, 2) := by decide +kernel
theorem dX10_slide_133 : decode cX10_slide 133 = .ok (.invokestatic 171, 3) := by decide +kernel
theorem dX10_slide_136 : decode cX10_slide 136 = .ok (.iload 5, 2) := by decide +kernel
theorem dX10_slide_138 : decode cX10_slide 138 = .ok (.invokestatic 174, 3) := by decide +kernel
theorem dX10_slide_141 : decode cX10_slide 141 = .ok (.invokevirtual 205, 3) := by decide +kernel
theorem dX10_slide_144 : decode cX10_slide 144 = .ok (.ifCond .ne 6, 3) := by decide +kernel
theorem dX10_slide_147 : decode cX10_slide 147 = .ok (.ldc 160, 2) := by decide +kernel
theorem dX10_slide_149 : decode cX10_slide 149 = .ok (.ireturn, 1) := by decide +kernel
theorem dX10_slide_150 : decode cX10_slide 150 = .ok (.aload_n 0, 1) := by decide +kernel
theorem dX10_slide_151 : decode cX10_slide 151 = .ok (.getfield 36, 3) := by decide +kernel
theorem dX10_slide_154 : decode cX10_slide 154 = .ok (.getfield 199, 3) := by decide +kernel
theorem dX10_slide_157 : decode cX10_slide 157 = .ok (.iload 6, 2) := by decide +kernel
theorem dX10_slide_159 : decode cX10_slide 159 = .ok (.invokevirtual 202, 3) := by decide +kernel
theorem dX10_slide_162 : decode cX10_slide 162 = .ok (.ireturn, 1) := by decide +kernel
abbrev rmX10_slide : Room := { frames := 5, cells := 0, slots := 0, locals := 200 }
abbrev sX10_slide (E : EV) : List AV → AH → (Option AV → AH → Prop) → Prop := Spec E yX10_slide cX10_slide 10 (some .int) rmX10_slide
theorem mX10_slide : Mt yX10_slide cX10_slide 10 (some .int) 6 := ⟨k703, k1, by decide +kernel⟩
theorem vX10_slide : MtV yX10_slide 10 := ⟨k701, k702, by decide, (RX10, TX10, 12), rfl, rfl⟩
def PX10_slide_19 (E : EV) (post : Option AV → AH → Prop) (h : AH) (l0 : Option Nat) (l1 : Int32) (l2 : Int32) (l3 : Int32) (l4 : Int32) (l5 : Int32) (l6 : Int32) (s0 : Int32) : Prop :=
  (s0 = 0 → post (some (aI (-1000001 : Int32))) h) ∧ (¬ s0 = 0 → CS (sX10_isNear E) [aI l3] h (kI fun x2 h3 => (x2 = 0 → post (some (aI (-1000001 : Int32))) h3) ∧ (¬ x2 = 0 → CS (sX10_isNear E) [aI l4] h3 (kI fun x4 h5 => (x4 = 0 → post (some (aI (-1000001 : Int32))) h5) ∧ (¬ x4 = 0 → CS (sX10_isDirection E) [aI l5] h5 (kI fun x6 h7 => (x6 = 0 → post (some (aI (-1000001 : Int32))) h7) ∧ (¬ x6 = 0 → CS (sX10_isPart E) [aI l6] h7 (kI fun x8 h9 => (¬ x8 = 0 → CV (sX10_isSlotEmpty E) l0 10 [aI l1] h9 (kI fun x10 h11 => (¬ x10 = 0 → post (some (aI (-1000002 : Int32))) h11) ∧ (x10 = 0 → CV (sX10_isSlotEmpty E) l0 10 [aI l2] h11 (kI fun x12 h13 => (x12 = 0 → rdP h13 l0 10 5 fun x14 => CV (sX8_slot E) x14 8 [aI l1] h13 (kP fun x15 h16 => rdP h16 l0 10 5 fun x18 => CV (sX8_slot E) x18 8 [aI l2] h16 (kP fun x19 h20 => rdP h20 l0 10 3 fun x22 => CV (sX3_relation E) x22 3 [aP x15, aP x19, aI l3, aI l4] h20 (kI fun x23 h24 => (¬ x23 = (2 : Int32) → rdP h24 l0 10 3 fun x25 => CS (sX10_directionX E) [aI l5] h24 (kI fun x26 h27 => CS (sX10_directionY E) [aI l5] h27 (kI fun x28 h29 => CV (sX3_isStopped E) x25 3 [aP x15, aP x19, aI l3, aI l4, aI x26, aI x28] h29 (kI fun x30 h31 => (¬ x30 = 0 → rdP h31 l0 10 3 fun x32 => rdP h31 x32 3 3 fun x33 => CV (sX0_part E) x33 0 [aI l6] h31 (kI fun x34 h35 => post (some (aI x34)) h35)) ∧ (x30 = 0 → post (some (aI (-1000009 : Int32))) h31))))) ∧ (x23 = (2 : Int32) → post (some (aI (-1000002 : Int32))) h24))))) ∧ (¬ x12 = 0 → post (some (aI (-1000002 : Int32))) h13))))) ∧ (x8 = 0 → post (some (aI (-1000001 : Int32))) h9)))))))))
theorem bX10_slide_19 {E : EV} {X : AX} {post : Option AV → AH → Prop} (C : Cb E X cX10_slide RX10 10 rmX10_slide) (D : Cr E X (some .int) rmX10_slide "slide" post) {h : AH} {l0 : Option Nat} {l1 : Int32} {l2 : Int32} {l3 : Int32} {l4 : Int32} {l5 : Int32} {l6 : Int32} {s0 : Int32} (w : PX10_slide_19 E post h l0 l1 l2 l3 l4 l5 l6 s0) : Go E X 10 0 0 19 [(0, aP l0), (1, aI l1), (2, aI l2), (3, aI l3), (4, aI l4), (5, aI l5), (6, aI l6)] [aI s0] h := by
  unfold PX10_slide_19 at w
  refine r_istore C dX10_slide_19 (by decide) rfl ?_
  refine r_iload C dX10_slide_21 0 rfl ?_
  refine r_if_eq C dX10_slide_23 (tgt := 57) rfl (fun hc => ?_) (fun hc => ?_)
  · have w := w.1 hc
    refine r_ldc (v := -1000001) C dX10_slide_57 k352 ?_
    exact r_iret C D rfl (Nat.zero_le _) (Nat.zero_le _) dX10_slide_59 w
  · have w := w.2 hc
    refine r_iload_n C dX10_slide_26 rfl 4 rfl ?_
    refine r_csI (rm' := rmX10_isNear) C mX10_isNear vX10_isNear k649 [aI l3] [] rfl rfl (Nat.le_of_ble_eq_true rfl) (by decide) ⟨Nat.zero_le _, Nat.zero_le _⟩ 0 0 rfl rfl dX10_slide_27 w (fun x2 h3 w => ?_)
    refine r_if_eq C dX10_slide_30 (tgt := 57) rfl (fun hc => ?_) (fun hc => ?_)
    · have w := w.1 hc
      refine r_ldc (v := -1000001) C dX10_slide_57 k352 ?_
      exact r_iret C D rfl (Nat.zero_le _) (Nat.zero_le _) dX10_slide_59 w
    · have w := w.2 hc
      refine r_iload C dX10_slide_33 5 rfl ?_
      refine r_csI (rm' := rmX10_isNear) C mX10_isNear vX10_isNear k649 [aI l4] [] rfl rfl (Nat.le_of_ble_eq_true rfl) (by decide) ⟨Nat.zero_le _, Nat.zero_le _⟩ 0 0 rfl rfl dX10_slide_35 w (fun x4 h5 w => ?_)
      refine r_if_eq C dX10_slide_38 (tgt := 57) rfl (fun hc => ?_) (fun hc => ?_)
      · have w := w.1 hc
        refine r_ldc (v := -1000001) C dX10_slide_57 k352 ?_
        exact r_iret C D rfl (Nat.zero_le _) (Nat.zero_le _) dX10_slide_59 w
      · have w := w.2 hc
        refine r_iload C dX10_slide_41 6 rfl ?_
        refine r_csI (rm' := rmX10_isDirection) C mX10_isDirection vX10_isDirection k600 [aI l5] [] rfl rfl (Nat.le_of_ble_eq_true rfl) (by decide) ⟨Nat.zero_le _, Nat.zero_le _⟩ 0 0 rfl rfl dX10_slide_43 w (fun x6 h7 w => ?_)
        refine r_if_eq C dX10_slide_46 (tgt := 57) rfl (fun hc => ?_) (fun hc => ?_)
        · have w := w.1 hc
          refine r_ldc (v := -1000001) C dX10_slide_57 k352 ?_
          exact r_iret C D rfl (Nat.zero_le _) (Nat.zero_le _) dX10_slide_59 w
        · have w := w.2 hc
          refine r_iload C dX10_slide_49 7 rfl ?_
          refine r_csI (rm' := rmX10_isPart) C mX10_isPart vX10_isPart k590 [aI l6] [] rfl rfl (Nat.le_of_ble_eq_true rfl) (by decide) ⟨Nat.zero_le _, Nat.zero_le _⟩ 0 0 rfl rfl dX10_slide_51 w (fun x8 h9 w => ?_)
          refine r_if_ne C dX10_slide_54 (tgt := 60) rfl (fun hc => ?_) (fun hc => ?_)
          · have w := w.1 hc
            refine r_aload_n C dX10_slide_60 rfl 1 rfl ?_
            refine r_iload_n C dX10_slide_61 rfl 2 rfl ?_
            refine r_cvI (rm' := rmX10_isSlotEmpty) C mX10_isSlotEmpty vX10_isSlotEmpty k652 [aI l1] [] rfl rfl (Nat.le_of_ble_eq_true rfl) (by decide) ⟨Nat.zero_le _, Nat.zero_le _⟩ 0 0 rfl rfl dX10_slide_62 w (fun x10 h11 w => ?_)
            refine r_if_ne C dX10_slide_65 (tgt := 76) rfl (fun hc => ?_) (fun hc => ?_)
            · have w := w.1 hc
              refine r_ldc (v := -1000002) C dX10_slide_76 k539 ?_
              exact r_iret C D rfl (Nat.zero_le _) (Nat.zero_le _) dX10_slide_78 w
            · have w := w.2 hc
              refine r_aload_n C dX10_slide_68 rfl 1 rfl ?_
              refine r_iload_n C dX10_slide_69 rfl 3 rfl ?_
              refine r_cvI (rm' := rmX10_isSlotEmpty) C mX10_isSlotEmpty vX10_isSlotEmpty k652 [aI l2] [] rfl rfl (Nat.le_of_ble_eq_true rfl) (by decide) ⟨Nat.zero_le _, Nat.zero_le _⟩ 0 0 rfl rfl dX10_slide_70 w (fun x12 h13 w => ?_)
              refine r_if_eq C dX10_slide_73 (tgt := 79) rfl (fun hc => ?_) (fun hc => ?_)
              · have w := w.1 hc
                refine r_aload_n C dX10_slide_79 rfl 1 rfl ?_
                refine r_getP C fcX10 (f := 5) (by decide) rfl k316 dX10_slide_80 (w.mono fun x14 w => ?_)
                refine r_iload_n C dX10_slide_83 rfl 2 rfl ?_
                refine r_cvP (rm' := rmX8_slot) C mX8_slot vX8_slot k537 [aI l1] [] rfl rfl (Nat.le_of_ble_eq_true rfl) (by decide) ⟨Nat.zero_le _, Nat.zero_le _⟩ 0 0 rfl rfl dX10_slide_84 w (fun x15 h16 w => ?_)
                refine r_astore C dX10_slide_87 (by decide) rfl ?_
                refine r_aload_n C dX10_slide_89 rfl 2 rfl ?_
                refine r_getP C fcX10 (f := 5) (by decide) rfl k316 dX10_slide_90 (w.mono fun x18 w => ?_)
                refine r_iload_n C dX10_slide_93 rfl 4 rfl ?_
                refine r_cvP (rm' := rmX8_slot) C mX8_slot vX8_slot k537 [aI l2] [] rfl rfl (Nat.le_of_ble_eq_true rfl) (by decide) ⟨Nat.zero_le _, Nat.zero_le _⟩ 0 0 rfl rfl dX10_slide_94 w (fun x19 h20 w => ?_)
                refine r_astore C dX10_slide_97 (by decide) rfl ?_
                refine r_aload_n C dX10_slide_99 rfl 3 rfl ?_
                refine r_getP C fcX10 (f := 3) (by decide) rfl k314 dX10_slide_100 (w.mono fun x22 w => ?_)
                refine r_aload C dX10_slide_103 1 rfl ?_
                refine r_aload C dX10_slide_105 0 rfl ?_
                refine r_iload_n C dX10_slide_107 rfl 6 rfl ?_
                refine r_iload C dX10_slide_108 7 rfl ?_
                refine r_cvI (rm' := rmX3_relation) C mX3_relation vX3_relation k656 [aP x15, aP x19, aI l3, aI l4] [] rfl rfl (Nat.le_of_ble_eq_true rfl) (by decide) ⟨Nat.zero_le _, Nat.zero_le _⟩ 0 0 rfl rfl dX10_slide_110 w (fun x23 h24 w => ?_)
                refine r_iconst (v := 2) C dX10_slide_113 rfl ?_
                refine r_icmp_ne C dX10_slide_114 (tgt := 120) rfl (fun hc => ?_) (fun hc => ?_)
                · have w := w.1 hc
                  refine r_aload_n C dX10_slide_120 rfl 3 rfl ?_
                  refine r_getP C fcX10 (f := 3) (by decide) rfl k314 dX10_slide_121 (w.mono fun x25 w => ?_)
                  refine r_aload C dX10_slide_124 1 rfl ?_
                  refine r_aload C dX10_slide_126 0 rfl ?_
                  refine r_iload_n C dX10_slide_128 rfl 6 rfl ?_
                  refine r_iload C dX10_slide_129 7 rfl ?_
                  refine r_iload C dX10_slide_131 8 rfl ?_
                  refine r_csI (rm' := rmX10_directionX) C mX10_directionX vX10_directionX k603 [aI l5] [aI l4, aI l3, aP x19, aP x15, aP x25] rfl rfl (Nat.le_of_ble_eq_true rfl) (by decide) ⟨Nat.zero_le _, Nat.zero_le _⟩ 0 0 rfl rfl dX10_slide_133 w (fun x26 h27 w => ?_)
                  refine r_iload C dX10_slide_136 8 rfl ?_
                  refine r_csI (rm' := rmX10_directionY) C mX10_directionY vX10_directionY k608 [aI l5] [aI x26, aI l4, aI l3, aP x19, aP x15, aP x25] rfl rfl (Nat.le_of_ble_eq_true rfl) (by decide) ⟨Nat.zero_le _, Nat.zero_le _⟩ 0 0 rfl rfl dX10_slide_138 w (fun x28 h29 w => ?_)
                  refine r_cvI (rm' := rmX3_isStopped) C mX3_isStopped vX3_isStopped k704 [aP x15, aP x19, aI l3, aI l4, aI x26, aI x28] [] rfl rfl (Nat.le_of_ble_eq_true rfl) (by decide) ⟨Nat.zero_le _, Nat.zero_le _⟩ 0 0 rfl rfl dX10_slide_141 w (fun x30 h31 w => ?_)
                  refine r_if_ne C dX10_slide_144 (tgt := 150) rfl (fun hc => ?_) (fun hc => ?_)
                  · have w := w.1 hc
                    refine r_aload_n C dX10_slide_150 rfl 3 rfl ?_
                    refine r_getP C fcX10 (f := 3) (by decide) rfl k314 dX10_slide_151 (w.mono fun x32 w => ?_)
                    refine r_getP C fcX3 (f := 3) (by decide) rfl k191 dX10_slide_154 (w.mono fun x33 w => ?_)
                    refine r_iload C dX10_slide_157 9 rfl ?_
                    refine r_cvI (rm' := rmX0_part) C mX0_part vX0_part k691 [aI l6] [] rfl rfl (Nat.le_of_ble_eq_true rfl) (by decide) ⟨Nat.zero_le _, Nat.zero_le _⟩ 0 0 rfl rfl dX10_slide_159 w (fun x34 h35 w => ?_)
                    exact r_iret C D rfl (Nat.zero_le _) (Nat.zero_le _) dX10_slide_162 w
                  · have w := w.2 hc
                    refine r_ldc (v := -1000009) C dX10_slide_147 k593 ?_
                    exact r_iret C D rfl (Nat.zero_le _) (Nat.zero_le _) dX10_slide_149 w
                · have w := w.2 hc
                  refine r_ldc (v := -1000002) C dX10_slide_117 k539 ?_
                  exact r_iret C D rfl (Nat.zero_le _) (Nat.zero_le _) dX10_slide_119 w
              · have w := w.2 hc
                refine r_ldc (v := -1000002) C dX10_slide_76 k539 ?_
                exact r_iret C D rfl (Nat.zero_le _) (Nat.zero_le _) dX10_slide_78 w
          · have w := w.2 hc
            refine r_ldc (v := -1000001) C dX10_slide_57 k352 ?_
            exact r_iret C D rfl (Nat.zero_le _) (Nat.zero_le _) dX10_slide_59 w
def PX10_slide_18 (E : EV) (post : Option AV → AH → Prop) (h : AH) (l0 : Option Nat) (l1 : Int32) (l2 : Int32) (l3 : Int32) (l4 : Int32) (l5 : Int32) (l6 : Int32) : Prop :=
  PX10_slide_19 E post h l0 l1 l2 l3 l4 l5 l6 (0 : Int32)
theorem bX10_slide_18 {E : EV} {X : AX} {post : Option AV → AH → Prop} (C : Cb E X cX10_slide RX10 10 rmX10_slide) (D : Cr E X (some .int) rmX10_slide "slide" post) {h : AH} {l0 : Option Nat} {l1 : Int32} {l2 : Int32} {l3 : Int32} {l4 : Int32} {l5 : Int32} {l6 : Int32} (w : PX10_slide_18 E post h l0 l1 l2 l3 l4 l5 l6) : Go E X 10 0 0 18 [(0, aP l0), (1, aI l1), (2, aI l2), (3, aI l3), (4, aI l4), (5, aI l5), (6, aI l6)] [] h := by
  unfold PX10_slide_18 at w
  refine r_iconst (v := 0) C dX10_slide_18 rfl ?_
  exact (bX10_slide_19 C D w)
def PX10_slide_0 (E : EV) (post : Option AV → AH → Prop) (h : AH) (l0 : Option Nat) (l1 : Int32) (l2 : Int32) (l3 : Int32) (l4 : Int32) (l5 : Int32) (l6 : Int32) : Prop :=
  CS (sX10_isSlot E) [aI l1] h (kI fun x1 h2 => (x1 = 0 → PX10_slide_18 E post h2 l0 l1 l2 l3 l4 l5 l6) ∧ (¬ x1 = 0 → CS (sX10_isSlot E) [aI l2] h2 (kI fun x3 h4 => (x3 = 0 → PX10_slide_18 E post h4 l0 l1 l2 l3 l4 l5 l6) ∧ (¬ x3 = 0 → PX10_slide_19 E post h4 l0 l1 l2 l3 l4 l5 l6 (1 : Int32)))))
theorem bX10_slide_0 {E : EV} {X : AX} {post : Option AV → AH → Prop} (C : Cb E X cX10_slide RX10 10 rmX10_slide) (D : Cr E X (some .int) rmX10_slide "slide" post) {h : AH} {l0 : Option Nat} {l1 : Int32} {l2 : Int32} {l3 : Int32} {l4 : Int32} {l5 : Int32} {l6 : Int32} (w : PX10_slide_0 E post h l0 l1 l2 l3 l4 l5 l6) : Go E X 10 0 0 0 [(0, aP l0), (1, aI l1), (2, aI l2), (3, aI l3), (4, aI l4), (5, aI l5), (6, aI l6)] [] h := by
  unfold PX10_slide_0 at w
  refine r_iload_n C dX10_slide_0 rfl 1 rfl ?_
  refine r_csI (rm' := rmX10_isSlot) C mX10_isSlot vX10_isSlot k366 [aI l1] [] rfl rfl (Nat.le_of_ble_eq_true rfl) (by decide) ⟨Nat.zero_le _, Nat.zero_le _⟩ 0 0 rfl rfl dX10_slide_1 w (fun x1 h2 w => ?_)
  refine r_if_eq C dX10_slide_4 (tgt := 18) rfl (fun hc => ?_) (fun hc => ?_)
  · have w := w.1 hc
    exact (bX10_slide_18 C D w)
  · have w := w.2 hc
    refine r_iload_n C dX10_slide_7 rfl 2 rfl ?_
    refine r_csI (rm' := rmX10_isSlot) C mX10_isSlot vX10_isSlot k366 [aI l2] [] rfl rfl (Nat.le_of_ble_eq_true rfl) (by decide) ⟨Nat.zero_le _, Nat.zero_le _⟩ 0 0 rfl rfl dX10_slide_8 w (fun x3 h4 w => ?_)
    refine r_if_eq C dX10_slide_11 (tgt := 18) rfl (fun hc => ?_) (fun hc => ?_)
    · have w := w.1 hc
      exact (bX10_slide_18 C D w)
    · have w := w.2 hc
      refine r_iconst (v := 1) C dX10_slide_14 rfl ?_
      refine r_goto C dX10_slide_15 (tgt := 19) rfl ?_
      exact (bX10_slide_19 C D w)
theorem eX10_slide {E : EV} {post : Option AV → AH → Prop} {h : AH} {l0 : Option Nat} {l1 : Int32} {l2 : Int32} {l3 : Int32} {l4 : Int32} {l5 : Int32} {l6 : Int32} (w : PX10_slide_0 E post h l0 l1 l2 l3 l4 l5 l6) : sX10_slide E [aP l0, aI l1, aI l2, aI l3, aI l4, aI l5, aI l6] h post := Spec.of RX10 rfl rfl (Nat.le_of_ble_eq_true rfl) fun X C D => bX10_slide_0 C D w
theorem dX10_slideItem_0 : decode cX10_slideItem 0 = .ok (.aload_n 0, 1) := by decide +kernel
theorem dX10_slideItem_1 : decode cX10_slideItem 1 = .ok (.iload_n 1, 1) := by decide +kernel
theorem dX10_slideItem_2 : decode cX10_slideItem 2 = .ok (.invokevirtual 258, 3) := by decide +kernel
theorem dX10_slideItem_5 : decode cX10_slideItem 5 = .ok (.ifCond .eq 10, 3) := by decide +kernel
theorem dX10_slideItem_8 : decode cX10_slideItem 8 = .ok (.iload_n 2, 1) := by decide +kernel
theorem dX10_slideItem_9 : decode cX10_slideItem 9 = .ok (.invokestatic 168, 3) := by decide +kernel
theorem dX10_slideItem_12 : decode cX10_slideItem 12 = .ok (.ifCond .ne 6, 3) := by decide +kernel
theorem dX10_slideItem_15 : decode cX10_slideItem 15 = .ok (.ldc 88, 2) := by decide +kernel
theorem dX10_slideItem_17 : decode cX10_slideItem 17 = .ok (.ireturn, 1) := by decide +kernel
theorem dX10_slideItem_18 : decode cX10_slideItem 18 = .ok (.aload_n 0, 1) := by decide +kernel
theorem dX10_slideItem_19 : decode cX10_slideItem 19 = .ok (.getfield 56, 3) := by decide +kernel
theorem dX10_slideItem_22 : decode cX10_slideItem 22 = .ok (.aload_n 0, 1) := by decide +kernel
theorem dX10_slideItem_23 : decode cX10_slideItem 23 = .ok (.getfield 52, 3) := by decide +kernel
theorem dX10_slideItem_26 : decode cX10_slideItem 26 = .ok (.invokevirtual 209, 3) := by decide +kernel
theorem dX10_slideItem_29 : decode cX10_slideItem 29 = .ok (.aload_n 0, 1) := by decide +kernel
theorem dX10_slideItem_30 : decode cX10_slideItem 30 = .ok (.getfield 43, 3) := by decide +kernel
theorem dX10_slideItem_33 : decode cX10_slideItem 33 = .ok (.aload_n 0, 1) := by decide +kernel
theorem dX10_slideItem_34 : decode cX10_slideItem 34 = .ok (.getfield 52, 3) := by decide +kernel
theorem dX10_slideItem_37 : decode cX10_slideItem 37 = .ok (.aload_n 0, 1) := by decide +kernel
theorem dX10_slideItem_38 : decode cX10_slideItem 38 = .ok (.getfield 52, 3) := by decide +kernel
theorem dX10_slideItem_41 : decode cX10_slideItem 41 = .ok (.iload_n 1, 1) := by decide +kernel
theorem dX10_slideItem_42 : decode cX10_slideItem 42 = .ok (.invokevirtual 261, 3) := by decide +kernel
theorem dX10_slideItem_45 : decode cX10_slideItem 45 = .ok (.iload_n 1, 1) := by decide +kernel
theorem dX10_slideItem_46 : decode cX10_slideItem 46 = .ok (.invokevirtual 263, 3) := by decide +kernel
theorem dX10_slideItem_49 : decode cX10_slideItem 49 = .ok (.aload_n 0, 1) := by decide +kernel
theorem dX10_slideItem_50 : decode cX10_slideItem 50 = .ok (.iload_n 1, 1) := by decide +kernel
theorem dX10_slideItem_51 : decode cX10_slideItem 51 = .ok (.iload_n 2, 1) := by decide +kernel
theorem dX10_slideItem_52 : decode cX10_slideItem 52 = .ok (.invokevirtual 267, 3) := by decide +kernel
theorem dX10_slideItem_55 : decode cX10_slideItem 55 = .ok (.istore_n 3, 1) := by decide +kernel
theorem dX10_slideItem_56 : decode cX10_slideItem 56 = .ok (.iload_n 3, 1) := by decide +kernel
theorem dX10_slideItem_57 : decode cX10_slideItem 57 = .ok (.ifCond .ne 6, 3) := by decide +kernel
theorem dX10_slideItem_60 : decode cX10_slideItem 60 = .ok (.ldc 160, 2) := by decide +kernel
theorem dX10_slideItem_62 : decode cX10_slideItem 62 = .ok (.ireturn, 1) := by decide +kernel
theorem dX10_slideItem_63 : decode cX10_slideItem 63 = .ok (.aload_n 0, 1) := by decide +kernel
theorem dX10_slideItem_64 : decode cX10_slideItem 64 = .ok (.getfield 62, 3) := by decide +kernel
theorem dX10_slideItem_67 : decode cX10_slideItem 67 = .ok (.aload_n 0, 1) := by decide +kernel
theorem dX10_slideItem_68 : decode cX10_slideItem 68 = .ok (.getfield 56, 3) := by decide +kernel
theorem dX10_slideItem_71 : decode cX10_slideItem 71 = .ok (.invokevirtual 125, 3) := by decide +kernel
theorem dX10_slideItem_74 : decode cX10_slideItem 74 = .ok (.iload_n 3, 1) := by decide +kernel
theorem dX10_slideItem_75 : decode cX10_slideItem 75 = .ok (.ireturn, 1) := by decide +kernel
abbrev rmX10_slideItem : Room := { frames := 5, cells := 0, slots := 0, locals := 200 }
abbrev sX10_slideItem (E : EV) : List AV → AH → (Option AV → AH → Prop) → Prop := Spec E yX10_slideItem cX10_slideItem 4 (some .int) rmX10_slideItem
theorem mX10_slideItem : Mt yX10_slideItem cX10_slideItem 4 (some .int) 2 := ⟨k833, k1, by decide +kernel⟩
theorem vX10_slideItem : MtV yX10_slideItem 10 := ⟨k831, k832, by decide, (RX10, TX10, 12), rfl, rfl⟩
def PX10_slideItem_0 (E : EV) (post : Option AV → AH → Prop) (h : AH) (l0 : Option Nat) (l1 : Int32) (l2 : Int32) : Prop :=
  CV (sX10_isItem E) l0 10 [aI l1] h (kI fun x1 h2 => (x1 = 0 → post (some (aI (-1000001 : Int32))) h2) ∧ (¬ x1 = 0 → CS (sX10_isDirection E) [aI l2] h2 (kI fun x3 h4 => (¬ x3 = 0 → rdP h4 l0 10 6 fun x5 => rdP h4 l0 10 5 fun x6 => CV (sX8_copy E) x5 8 [aP x6] h4 (kV fun h8 => rdP h8 l0 10 4 fun x9 => rdP h8 l0 10 5 fun x10 => rdP h8 l0 10 5 fun x11 => CV (sX8_shape E) x11 8 [aI l1] h8 (kP fun x12 h13 => CV (sX4_prepare E) x9 4 [aP x10, aP x12, aI l1] h13 (kV fun h15 => CV (sX10_moveItem E) l0 10 [aI l1, aI l2] h15 (kI fun x16 h17 => (¬ x16 = 0 → rdP h17 l0 10 7 fun x19 => rdP h17 l0 10 6 fun x20 => CV (sX1_save E) x19 1 [aP x20] h17 (kV fun h22 => post (some (aI x16)) h22)) ∧ (x16 = 0 → post (some (aI (-1000009 : Int32))) h17)))))) ∧ (x3 = 0 → post (some (aI (-1000001 : Int32))) h4))))
theorem bX10_slideItem_0 {E : EV} {X : AX} {post : Option AV → AH → Prop} (C : Cb E X cX10_slideItem RX10 4 rmX10_slideItem) (D : Cr E X (some .int) rmX10_slideItem "slideItem" post) {h : AH} {l0 : Option Nat} {l1 : Int32} {l2 : Int32} (w : PX10_slideItem_0 E post h l0 l1 l2) : Go E X 4 0 0 0 [(0, aP l0), (1, aI l1), (2, aI l2)] [] h := by
  unfold PX10_slideItem_0 at w
  refine r_aload_n C dX10_slideItem_0 rfl 0 rfl ?_
  refine r_iload_n C dX10_slideItem_1 rfl 1 rfl ?_
  refine r_cvI (rm' := rmX10_isItem) C mX10_isItem vX10_isItem k834 [aI l1] [] rfl rfl (Nat.le_of_ble_eq_true rfl) (by decide) ⟨Nat.zero_le _, Nat.zero_le _⟩ 0 0 rfl rfl dX10_slideItem_2 w (fun x1 h2 w => ?_)
  refine r_if_eq C dX10_slideItem_5 (tgt := 15) rfl (fun hc => ?_) (fun hc => ?_)
  · have w := w.1 hc
    refine r_ldc (v := -1000001) C dX10_slideItem_15 k352 ?_
    exact r_iret C D rfl (Nat.zero_le _) (Nat.zero_le _) dX10_slideItem_17 w
  · have w := w.2 hc
    refine r_iload_n C dX10_slideItem_8 rfl 2 rfl ?_
    refine r_csI (rm' := rmX10_isDirection) C mX10_isDirection vX10_isDirection k600 [aI l2] [] rfl rfl (Nat.le_of_ble_eq_true rfl) (by decide) ⟨Nat.zero_le _, Nat.zero_le _⟩ 0 0 rfl rfl dX10_slideItem_9 w (fun x3 h4 w => ?_)
    refine r_if_ne C dX10_slideItem_12 (tgt := 18) rfl (fun hc => ?_) (fun hc => ?_)
    · have w := w.1 hc
      refine r_aload_n C dX10_slideItem_18 rfl 0 rfl ?_
      refine r_getP C fcX10 (f := 6) (by decide) rfl k317 dX10_slideItem_19 (w.mono fun x5 w => ?_)
      refine r_aload_n C dX10_slideItem_22 rfl 0 rfl ?_
      refine r_getP C fcX10 (f := 5) (by decide) rfl k316 dX10_slideItem_23 (w.mono fun x6 w => ?_)
      refine r_cvV (rm' := rmX8_copy) C mX8_copy vX8_copy k720 [aP x6] [] rfl rfl (Nat.le_of_ble_eq_true rfl) (by decide) ⟨Nat.zero_le _, Nat.zero_le _⟩ 0 0 rfl rfl dX10_slideItem_26 w (fun h8 w => ?_)
      refine r_aload_n C dX10_slideItem_29 rfl 0 rfl ?_
      refine r_getP C fcX10 (f := 4) (by decide) rfl k315 dX10_slideItem_30 (w.mono fun x9 w => ?_)
      refine r_aload_n C dX10_slideItem_33 rfl 0 rfl ?_
      refine r_getP C fcX10 (f := 5) (by decide) rfl k316 dX10_slideItem_34 (w.mono fun x10 w => ?_)
      refine r_aload_n C dX10_slideItem_37 rfl 0 rfl ?_
      refine r_getP C fcX10 (f := 5) (by decide) rfl k316 dX10_slideItem_38 (w.mono fun x11 w => ?_)
      refine r_iload_n C dX10_slideItem_41 rfl 1 rfl ?_
      refine r_cvP (rm' := rmX8_shape) C mX8_shape vX8_shape k725 [aI l1] [aP x10, aP x9] rfl rfl (Nat.le_of_ble_eq_true rfl) (by decide) ⟨Nat.zero_le _, Nat.zero_le _⟩ 0 0 rfl rfl dX10_slideItem_42 w (fun x12 h13 w => ?_)
      refine r_iload_n C dX10_slideItem_45 rfl 1 rfl ?_
      refine r_cvV (rm' := rmX4_prepare) C mX4_prepare vX4_prepare k726 [aP x10, aP x12, aI l1] [] rfl rfl (Nat.le_of_ble_eq_true rfl) (by decide) ⟨Nat.zero_le _, Nat.zero_le _⟩ 0 0 rfl rfl dX10_slideItem_46 w (fun h15 w => ?_)
      refine r_aload_n C dX10_slideItem_49 rfl 0 rfl ?_
      refine r_iload_n C dX10_slideItem_50 rfl 1 rfl ?_
      refine r_iload_n C dX10_slideItem_51 rfl 2 rfl ?_
      refine r_cvI (rm' := rmX10_moveItem) C mX10_moveItem vX10_moveItem k838 [aI l1, aI l2] [] rfl rfl (Nat.le_of_ble_eq_true rfl) (by decide) ⟨Nat.zero_le _, Nat.zero_le _⟩ 0 0 rfl rfl dX10_slideItem_52 w (fun x16 h17 w => ?_)
      refine r_istore_n C dX10_slideItem_55 rfl (by decide) rfl ?_
      refine r_iload_n C dX10_slideItem_56 rfl 0 rfl ?_
      refine r_if_ne C dX10_slideItem_57 (tgt := 63) rfl (fun hc => ?_) (fun hc => ?_)
      · have w := w.1 hc
        refine r_aload_n C dX10_slideItem_63 rfl 1 rfl ?_
        refine r_getP C fcX10 (f := 7) (by decide) rfl k318 dX10_slideItem_64 (w.mono fun x19 w => ?_)
        refine r_aload_n C dX10_slideItem_67 rfl 1 rfl ?_
        refine r_getP C fcX10 (f := 6) (by decide) rfl k317 dX10_slideItem_68 (w.mono fun x20 w => ?_)
        refine r_cvV (rm' := rmX1_save) C mX1_save vX1_save k489 [aP x20] [] rfl rfl (Nat.le_of_ble_eq_true rfl) (by decide) ⟨Nat.zero_le _, Nat.zero_le _⟩ 0 0 rfl rfl dX10_slideItem_71 w (fun h22 w => ?_)
        refine r_iload_n C dX10_slideItem_74 rfl 0 rfl ?_
        exact r_iret C D rfl (Nat.zero_le _) (Nat.zero_le _) dX10_slideItem_75 w
      · have w := w.2 hc
        refine r_ldc (v := -1000009) C dX10_slideItem_60 k593 ?_
        exact r_iret C D rfl (Nat.zero_le _) (Nat.zero_le _) dX10_slideItem_62 w
    · have w := w.2 hc
      refine r_ldc (v := -1000001) C dX10_slideItem_15 k352 ?_
      exact r_iret C D rfl (Nat.zero_le _) (Nat.zero_le _) dX10_slideItem_17 w
theorem eX10_slideItem {E : EV} {post : Option AV → AH → Prop} {h : AH} {l0 : Option Nat} {l1 : Int32} {l2 : Int32} (w : PX10_slideItem_0 E post h l0 l1 l2) : sX10_slideItem E [aP l0, aI l1, aI l2] h post := Spec.of RX10 rfl rfl (Nat.le_of_ble_eq_true rfl) fun X C D => bX10_slideItem_0 C D w
theorem dX10_squaredGap_0 : decode cX10_squaredGap 0 = .ok (.iload_n 1, 1) := by decide +kernel
theorem dX10_squaredGap_1 : decode cX10_squaredGap 1 = .ok (.invokestatic 98, 3) := by decide +kernel
theorem dX10_squaredGap_4 : decode cX10_squaredGap 4 = .ok (.ifCond .eq 33, 3) := by decide +kernel
theorem dX10_squaredGap_7 : decode cX10_squaredGap 7 = .ok (.iload_n 2, 1) := by decide +kernel
theorem dX10_squaredGap_8 : decode cX10_squaredGap 8 = .ok (.invokestatic 98, 3) := by decide +kernel
theorem dX10_squaredGap_11 : decode cX10_squaredGap 11 = .ok (.ifCond .eq 26, 3) := by decide +kernel
theorem dX10_squaredGap_14 : decode cX10_squaredGap 14 = .ok (.iload_n 3, 1) := by decide +kernel
theorem dX10_squaredGap_15 : decode cX10_squaredGap 15 = .ok (.invokestatic 185, 3) := by decide +kernel
theorem dX10_squaredGap_18 : decode cX10_squaredGap 18 = .ok (.ifCond .eq 19, 3) := by decide +kernel
theorem dX10_squaredGap_21 : decode cX10_squaredGap 21 = .ok (.iload 4, 2) := by decide +kernel
theorem dX10_squaredGap_23 : decode cX10_squaredGap 23 = .ok (.invokestatic 185, 3) := by decide +kernel
theorem dX10_squaredGap_26 : decode cX10_squaredGap 26 = .ok (.ifCond .eq 11, 3) := by decide +kernel
theorem dX10_squaredGap_29 : decode cX10_squaredGap 29 = .ok (.iload 5, 2) := by decide +kernel
theorem dX10_squaredGap_31 : decode cX10_squaredGap 31 = .ok (.invokestatic 157, 3) := by decide +kernel
theorem dX10_squaredGap_34 : decode cX10_squaredGap 34 = .ok (.ifCond .ne 6, 3) := by decide +kernel
theorem dX10_squaredGap_37 : decode cX10_squaredGap 37 = .ok (.ldc 88, 2) := by decide +kernel
theorem dX10_squaredGap_39 : decode cX10_squaredGap 39 = .ok (.ireturn, 1) := by decide +kernel
theorem dX10_squaredGap_40 : decode cX10_squaredGap 40 = .ok (.aload_n 0, 1) := by decide +kernel
theorem dX10_squaredGap_41 : decode cX10_squaredGap 41 = .ok (.iload_n 1, 1) := by decide +kernel
theorem dX10_squaredGap_42 : decode cX10_squaredGap 42 = .ok (.invokevirtual 188, 3) := by decide +kernel
theorem dX10_squaredGap_45 : decode cX10_squaredGap 45 = .ok (.ifCond .ne 11, 3) := by decide +kernel
theorem dX10_squaredGap_48 : decode cX10_squaredGap 48 = .ok (.aload_n 0, 1) := by decide +kernel
theorem dX10_squaredGap_49 : decode cX10_squaredGap 49 = .ok (.iload_n 2, 1) := by decide +kernel
theorem dX10_squaredGap_50 : decode cX10_squaredGap 50 = .ok (.invokevirtual 188, 3) := by decide +kernel
theorem dX10_squaredGap_53 : decode cX10_squaredGap 53 = .ok (.ifCond .eq 6, 3) := by decide +kernel
theorem dX10_squaredGap_56 : decode cX10_squaredGap 56 = .ok (.ldc 124, 2) := by decide +kernel
theorem dX10_squaredGap_58 : decode cX10_squaredGap 58 = .ok (.ireturn, 1) := by decide +kernel
theorem dX10_squaredGap_59 : decode cX10_squaredGap 59 = .ok (.aload_n 0, 1) := by decide +kernel
theorem dX10_squaredGap_60 : decode cX10_squaredGap 60 = .ok (.getfield 36, 3) := by decide +kernel
theorem dX10_squaredGap_63 : decode cX10_squaredGap 63 = .ok (.aload_n 0, 1) := by decide +kernel
theorem dX10_squaredGap_64 : decode cX10_squaredGap 64 = .ok (.getfield 52, 3) := by decide +kernel
theorem dX10_squaredGap_67 : decode cX10_squaredGap 67 = .ok (.iload_n 1, 1) := by decide +kernel
theorem dX10_squaredGap_68 : decode cX10_squaredGap 68 = .ok (.invokevirtual 116, 3) := by decide +kernel
theorem dX10_squaredGap_71 : decode cX10_squaredGap 71 = .ok (.aload_n 0, 1) := by decide +kernel
theorem dX10_squaredGap_72 : decode cX10_squaredGap 72 = .ok (.getfield 52, 3) := by decide +kernel
theorem dX10_squaredGap_75 : decode cX10_squaredGap 75 = .ok (.iload_n 2, 1) := by decide +kernel
theorem dX10_squaredGap_76 : decode cX10_squaredGap 76 = .ok (.invokevirtual 116, 3) := by decide +kernel
theorem dX10_squaredGap_79 : decode cX10_squaredGap 79 = .ok (.iload_n 3, 1) := by decide +kernel
theorem dX10_squaredGap_80 : decode cX10_squaredGap 80 = .ok (.iload 4, 2) := by decide +kernel
theorem dX10_squaredGap_82 : decode cX10_squaredGap 82 = .ok (.invokevirtual 195, 3) := by decide +kernel
theorem dX10_squaredGap_85 : decode cX10_squaredGap 85 = .ok (.aload_n 0, 1) := by decide +kernel
theorem dX10_squaredGap_86 : decode cX10_squaredGap 86 = .ok (.getfield 36, 3) := by decide +kernel
theorem dX10_squaredGap_89 : decode cX10_squaredGap 89 = .ok (.getfield 199, 3) := by decide +kernel
theorem dX10_squaredGap_92 : decode cX10_squaredGap 92 = .ok (.iload 5, 2) := by decide +kernel
theorem dX10_squaredGap_94 : decode cX10_squaredGap 94 = .ok (.invokevirtual 202, 3) := by decide +kernel
theorem dX10_squaredGap_97 : decode cX10_squaredGap 97 = .ok (.ireturn, 1) := by decide +kernel
abbrev rmX10_squaredGap : Room := { frames := 5, cells := 0, slots := 0, locals := 200 }
abbrev sX10_squaredGap (E : EV) : List AV → AH → (Option AV → AH → Prop) → Prop := Spec E yX10_squaredGap cX10_squaredGap 6 (some .int) rmX10_squaredGap
theorem mX10_squaredGap : Mt yX10_squaredGap cX10_squaredGap 6 (some .int) 5 := ⟨k669, k1, by decide +kernel⟩
theorem vX10_squaredGap : MtV yX10_squaredGap 10 := ⟨k667, k668, by decide, (RX10, TX10, 12), rfl, rfl⟩
def PX10_squaredGap_0 (E : EV) (post : Option AV → AH → Prop) (h : AH) (l0 : Option Nat) (l1 : Int32) (l2 : Int32) (l3 : Int32) (l4 : Int32) (l5 : Int32) : Prop :=
  CS (sX10_isSlot E) [aI l1] h (kI fun x1 h2 => (x1 = 0 → post (some (aI (-1000001 : Int32))) h2) ∧ (¬ x1 = 0 → CS (sX10_isSlot E) [aI l2] h2 (kI fun x3 h4 => (x3 = 0 → post (some (aI (-1000001 : Int32))) h4) ∧ (¬ x3 = 0 → CS (sX10_isNear E) [aI l3] h4 (kI fun x5 h6 => (x5 = 0 → post (some (aI (-1000001 : Int32))) h6) ∧ (¬ x5 = 0 → CS (sX10_isNear E) [aI l4] h6 (kI fun x7 h8 => (x7 = 0 → post (some (aI (-1000001 : Int32))) h8) ∧ (¬ x7 = 0 → CS (sX10_isPart E) [aI l5] h8 (kI fun x9 h10 => (¬ x9 = 0 → CV (sX10_isSlotEmpty E) l0 10 [aI l1] h10 (kI fun x11 h12 => (¬ x11 = 0 → post (some (aI (-1000002 : Int32))) h12) ∧ (x11 = 0 → CV (sX10_isSlotEmpty E) l0 10 [aI l2] h12 (kI fun x13 h14 => (x13 = 0 → rdP h14 l0 10 3 fun x15 => rdP h14 l0 10 5 fun x16 => CV (sX8_slot E) x16 8 [aI l1] h14 (kP fun x17 h18 => rdP h18 l0 10 5 fun x19 => CV (sX8_slot E) x19 8 [aI l2] h18 (kP fun x20 h21 => CV (sX3_measureGap E) x15 3 [aP x17, aP x20, aI l3, aI l4] h21 (kV fun h23 => rdP h23 l0 10 3 fun x24 => rdP h23 x24 3 3 fun x25 => CV (sX0_part E) x25 0 [aI l5] h23 (kI fun x26 h27 => post (some (aI x26)) h27))))) ∧ (¬ x13 = 0 → post (some (aI (-1000002 : Int32))) h14))))) ∧ (x9 = 0 → post (some (aI (-1000001 : Int32))) h10))))))))))
theorem bX10_squaredGap_0 {E : EV} {X : AX} {post : Option AV → AH → Prop} (C : Cb E X cX10_squaredGap RX10 6 rmX10_squaredGap) (D : Cr E X (some .int) rmX10_squaredGap "squaredGap" post) {h : AH} {l0 : Option Nat} {l1 : Int32} {l2 : Int32} {l3 : Int32} {l4 : Int32} {l5 : Int32} (w : PX10_squaredGap_0 E post h l0 l1 l2 l3 l4 l5) : Go E X 6 0 0 0 [(0, aP l0), (1, aI l1), (2, aI l2), (3, aI l3), (4, aI l4), (5, aI l5)] [] h := by
  unfold PX10_squaredGap_0 at w
  refine r_iload_n C dX10_squaredGap_0 rfl 1 rfl ?_
  refine r_csI (rm' := rmX10_isSlot) C mX10_isSlot vX10_isSlot k366 [aI l1] [] rfl rfl (Nat.le_of_ble_eq_true rfl) (by decide) ⟨Nat.zero_le _, Nat.zero_le _⟩ 0 0 rfl rfl dX10_squaredGap_1 w (fun x1 h2 w => ?_)
  refine r_if_eq C dX10_squaredGap_4 (tgt := 37) rfl (fun hc => ?_) (fun hc => ?_)
  · have w := w.1 hc
    refine r_ldc (v := -1000001) C dX10_squaredGap_37 k352 ?_
    exact r_iret C D rfl (Nat.zero_le _) (Nat.zero_le _) dX10_squaredGap_39 w
  · have w := w.2 hc
    refine r_iload_n C dX10_squaredGap_7 rfl 2 rfl ?_
    refine r_csI (rm' := rmX10_isSlot) C mX10_isSlot vX10_isSlot k366 [aI l2] [] rfl rfl (Nat.le_of_ble_eq_true rfl) (by decide) ⟨Nat.zero_le _, Nat.zero_le _⟩ 0 0 rfl rfl dX10_squaredGap_8 w (fun x3 h4 w => ?_)
    refine r_if_eq C dX10_squaredGap_11 (tgt := 37) rfl (fun hc => ?_) (fun hc => ?_)
    · have w := w.1 hc
      refine r_ldc (v := -1000001) C dX10_squaredGap_37 k352 ?_
      exact r_iret C D rfl (Nat.zero_le _) (Nat.zero_le _) dX10_squaredGap_39 w
    · have w := w.2 hc
      refine r_iload_n C dX10_squaredGap_14 rfl 3 rfl ?_
      refine r_csI (rm' := rmX10_isNear) C mX10_isNear vX10_isNear k649 [aI l3] [] rfl rfl (Nat.le_of_ble_eq_true rfl) (by decide) ⟨Nat.zero_le _, Nat.zero_le _⟩ 0 0 rfl rfl dX10_squaredGap_15 w (fun x5 h6 w => ?_)
      refine r_if_eq C dX10_squaredGap_18 (tgt := 37) rfl (fun hc => ?_) (fun hc => ?_)
      · have w := w.1 hc
        refine r_ldc (v := -1000001) C dX10_squaredGap_37 k352 ?_
        exact r_iret C D rfl (Nat.zero_le _) (Nat.zero_le _) dX10_squaredGap_39 w
      · have w := w.2 hc
        refine r_iload C dX10_squaredGap_21 4 rfl ?_
        refine r_csI (rm' := rmX10_isNear) C mX10_isNear vX10_isNear k649 [aI l4] [] rfl rfl (Nat.le_of_ble_eq_true rfl) (by decide) ⟨Nat.zero_le _, Nat.zero_le _⟩ 0 0 rfl rfl dX10_squaredGap_23 w (fun x7 h8 w => ?_)
        refine r_if_eq C dX10_squaredGap_26 (tgt := 37) rfl (fun hc => ?_) (fun hc => ?_)
        · have w := w.1 hc
          refine r_ldc (v := -1000001) C dX10_squaredGap_37 k352 ?_
          exact r_iret C D rfl (Nat.zero_le _) (Nat.zero_le _) dX10_squaredGap_39 w
        · have w := w.2 hc
          refine r_iload C dX10_squaredGap_29 5 rfl ?_
          refine r_csI (rm' := rmX10_isPart) C mX10_isPart vX10_isPart k590 [aI l5] [] rfl rfl (Nat.le_of_ble_eq_true rfl) (by decide) ⟨Nat.zero_le _, Nat.zero_le _⟩ 0 0 rfl rfl dX10_squaredGap_31 w (fun x9 h10 w => ?_)
          refine r_if_ne C dX10_squaredGap_34 (tgt := 40) rfl (fun hc => ?_) (fun hc => ?_)
          · have w := w.1 hc
            refine r_aload_n C dX10_squaredGap_40 rfl 0 rfl ?_
            refine r_iload_n C dX10_squaredGap_41 rfl 1 rfl ?_
            refine r_cvI (rm' := rmX10_isSlotEmpty) C mX10_isSlotEmpty vX10_isSlotEmpty k652 [aI l1] [] rfl rfl (Nat.le_of_ble_eq_true rfl) (by decide) ⟨Nat.zero_le _, Nat.zero_le _⟩ 0 0 rfl rfl dX10_squaredGap_42 w (fun x11 h12 w => ?_)
            refine r_if_ne C dX10_squaredGap_45 (tgt := 56) rfl (fun hc => ?_) (fun hc => ?_)
            · have w := w.1 hc
              refine r_ldc (v := -1000002) C dX10_squaredGap_56 k539 ?_
              exact r_iret C D rfl (Nat.zero_le _) (Nat.zero_le _) dX10_squaredGap_58 w
            · have w := w.2 hc
              refine r_aload_n C dX10_squaredGap_48 rfl 0 rfl ?_
              refine r_iload_n C dX10_squaredGap_49 rfl 2 rfl ?_
              refine r_cvI (rm' := rmX10_isSlotEmpty) C mX10_isSlotEmpty vX10_isSlotEmpty k652 [aI l2] [] rfl rfl (Nat.le_of_ble_eq_true rfl) (by decide) ⟨Nat.zero_le _, Nat.zero_le _⟩ 0 0 rfl rfl dX10_squaredGap_50 w (fun x13 h14 w => ?_)
              refine r_if_eq C dX10_squaredGap_53 (tgt := 59) rfl (fun hc => ?_) (fun hc => ?_)
              · have w := w.1 hc
                refine r_aload_n C dX10_squaredGap_59 rfl 0 rfl ?_
                refine r_getP C fcX10 (f := 3) (by decide) rfl k314 dX10_squaredGap_60 (w.mono fun x15 w => ?_)
                refine r_aload_n C dX10_squaredGap_63 rfl 0 rfl ?_
                refine r_getP C fcX10 (f := 5) (by decide) rfl k316 dX10_squaredGap_64 (w.mono fun x16 w => ?_)
                refine r_iload_n C dX10_squaredGap_67 rfl 1 rfl ?_
                refine r_cvP (rm' := rmX8_slot) C mX8_slot vX8_slot k537 [aI l1] [aP x15] rfl rfl (Nat.le_of_ble_eq_true rfl) (by decide) ⟨Nat.zero_le _, Nat.zero_le _⟩ 0 0 rfl rfl dX10_squaredGap_68 w (fun x17 h18 w => ?_)
                refine r_aload_n C dX10_squaredGap_71 rfl 0 rfl ?_
                refine r_getP C fcX10 (f := 5) (by decide) rfl k316 dX10_squaredGap_72 (w.mono fun x19 w => ?_)
                refine r_iload_n C dX10_squaredGap_75 rfl 2 rfl ?_
                refine r_cvP (rm' := rmX8_slot) C mX8_slot vX8_slot k537 [aI l2] [aP x17, aP x15] rfl rfl (Nat.le_of_ble_eq_true rfl) (by decide) ⟨Nat.zero_le _, Nat.zero_le _⟩ 0 0 rfl rfl dX10_squaredGap_76 w (fun x20 h21 w => ?_)
                refine r_iload_n C dX10_squaredGap_79 rfl 3 rfl ?_
                refine r_iload C dX10_squaredGap_80 4 rfl ?_
                refine r_cvV (rm' := rmX3_measureGap) C mX3_measureGap vX3_measureGap k670 [aP x17, aP x20, aI l3, aI l4] [] rfl rfl (Nat.le_of_ble_eq_true rfl) (by decide) ⟨Nat.zero_le _, Nat.zero_le _⟩ 0 0 rfl rfl dX10_squaredGap_82 w (fun h23 w => ?_)
                refine r_aload_n C dX10_squaredGap_85 rfl 0 rfl ?_
                refine r_getP C fcX10 (f := 3) (by decide) rfl k314 dX10_squaredGap_86 (w.mono fun x24 w => ?_)
                refine r_getP C fcX3 (f := 3) (by decide) rfl k191 dX10_squaredGap_89 (w.mono fun x25 w => ?_)
                refine r_iload C dX10_squaredGap_92 5 rfl ?_
                refine r_cvI (rm' := rmX0_part) C mX0_part vX0_part k691 [aI l5] [] rfl rfl (Nat.le_of_ble_eq_true rfl) (by decide) ⟨Nat.zero_le _, Nat.zero_le _⟩ 0 0 rfl rfl dX10_squaredGap_94 w (fun x26 h27 w => ?_)
                exact r_iret C D rfl (Nat.zero_le _) (Nat.zero_le _) dX10_squaredGap_97 w
              · have w := w.2 hc
                refine r_ldc (v := -1000002) C dX10_squaredGap_56 k539 ?_
                exact r_iret C D rfl (Nat.zero_le _) (Nat.zero_le _) dX10_squaredGap_58 w
          · have w := w.2 hc
            refine r_ldc (v := -1000001) C dX10_squaredGap_37 k352 ?_
            exact r_iret C D rfl (Nat.zero_le _) (Nat.zero_le _) dX10_squaredGap_39 w
theorem eX10_squaredGap {E : EV} {post : Option AV → AH → Prop} {h : AH} {l0 : Option Nat} {l1 : Int32} {l2 : Int32} {l3 : Int32} {l4 : Int32} {l5 : Int32} (w : PX10_squaredGap_0 E post h l0 l1 l2 l3 l4 l5) : sX10_squaredGap E [aP l0, aI l1, aI l2, aI l3, aI l4, aI l5] h post := Spec.of RX10 rfl rfl (Nat.le_of_ble_eq_true rfl) fun X C D => bX10_squaredGap_0 C D w
theorem dX10_sumOf_0 : decode cX10_sumOf 0 = .ok (.aload_n 0, 1) := by decide +kernel
theorem dX10_sumOf_1 : decode cX10_sumOf 1 = .ok (.getfield 36, 3) := by decide +kernel
theorem dX10_sumOf_4 : decode cX10_sumOf 4 = .ok (.aload_n 0, 1) := by decide +kernel
theorem dX10_sumOf_5 : decode cX10_sumOf 5 = .ok (.getfield 52, 3) := by decide +kernel
theorem dX10_sumOf_8 : decode cX10_sumOf 8 = .ok (.iload_n 2, 1) := by decide +kernel
theorem dX10_sumOf_9 : decode cX10_sumOf 9 = .ok (.invokevirtual 116, 3) := by decide +kernel
theorem dX10_sumOf_12 : decode cX10_sumOf 12 = .ok (.iload_n 3, 1) := by decide +kernel
theorem dX10_sumOf_13 : decode cX10_sumOf 13 = .ok (.aload_n 0, 1) := by decide +kernel
theorem dX10_sumOf_14 : decode cX10_sumOf 14 = .ok (.getfield 52, 3) := by decide +kernel
theorem dX10_sumOf_17 : decode cX10_sumOf 17 = .ok (.iload 4, 2) := by decide +kernel
theorem dX10_sumOf_19 : decode cX10_sumOf 19 = .ok (.invokevirtual 116, 3) := by decide +kernel
theorem dX10_sumOf_22 : decode cX10_sumOf 22 = .ok (.iload 5, 2) := by decide +kernel
theorem dX10_sumOf_24 : decode cX10_sumOf 24 = .ok (.iload_n 1, 1) := by decide +kernel
theorem dX10_sumOf_25 : decode cX10_sumOf 25 = .ok (.iconst 1, 1) := by decide +kernel
theorem dX10_sumOf_26 : decode cX10_sumOf 26 = .ok (.if_icmp .ne 7, 3) := by decide +kernel
theorem dX10_sumOf_29 : decode cX10_sumOf 29 = .ok (.iconst 2, 1) := by decide +kernel
theorem dX10_sumOf_30 : decode cX10_sumOf 30 = .ok (.goto 4, 3) := by decide +kernel
theorem dX10_sumOf_33 : decode cX10_sumOf 33 = .ok (.iconst 0, 1) := by decide +kernel
theorem dX10_sumOf_34 : decode cX10_sumOf 34 = .ok (.invokevirtual 328, 3) := by decide +kernel
theorem dX10_sumOf_37 : decode cX10_sumOf 37 = .ok (.aload_n 0, 1) := by decide +kernel
theorem dX10_sumOf_38 : decode cX10_sumOf 38 = .ok (.getfield 36, 3) := by decide +kernel
theorem dX10_sumOf_41 : decode cX10_sumOf 41 = .ok (.getfield 332, 3) := by decide +kernel
theorem dX10_sumOf_44 : decode cX10_sumOf 44 = .ok (.areturn, 1) := by decide +kernel
abbrev rmX10_sumOf : Room := { frames := 4, cells := 0, slots := 0, locals := 160 }
abbrev sX10_sumOf (E : EV) : List AV → AH → (Option AV → AH → Prop) → Prop := Spec E yX10_sumOf cX10_sumOf 6 (some (.object "NestingPlanner$Polygon")) rmX10_sumOf
theorem mX10_sumOf : Mt yX10_sumOf cX10_sumOf 6 (some (.object "NestingPlanner$Polygon")) 5 := ⟨k624, k1, by decide +kernel⟩
theorem vX10_sumOf : MtV yX10_sumOf 10 := ⟨k623, kp9, by decide, (RX10, TX10, 12), rfl, rfl⟩
def PX10_sumOf_34 (E : EV) (post : Option AV → AH → Prop) (h : AH) (l0 : Option Nat) (s0 : Option Nat) (s1 : Option Nat) (s2 : Int32) (s3 : Option Nat) (s4 : Int32) (s5 : Int32) : Prop :=
  CV (sX3_addUp E) s0 3 [aP s1, aI s2, aP s3, aI s4, aI s5] h (kV fun h2 => rdP h2 l0 10 3 fun x3 => rdP h2 x3 3 2 fun x4 => post (some (aP x4)) h2)
theorem bX10_sumOf_34 {E : EV} {X : AX} {post : Option AV → AH → Prop} (C : Cb E X cX10_sumOf RX10 6 rmX10_sumOf) (D : Cr E X (some (.object "NestingPlanner$Polygon")) rmX10_sumOf "sumOf" post) {h : AH} {l0 : Option Nat} {s0 : Option Nat} {s1 : Option Nat} {s2 : Int32} {s3 : Option Nat} {s4 : Int32} {s5 : Int32} (w : PX10_sumOf_34 E post h l0 s0 s1 s2 s3 s4 s5) : Go E X 6 0 0 34 [(0, aP l0)] [aI s5, aI s4, aP s3, aI s2, aP s1, aP s0] h := by
  unfold PX10_sumOf_34 at w
  refine r_cvV (rm' := rmX3_addUp) C mX3_addUp vX3_addUp k625 [aP s1, aI s2, aP s3, aI s4, aI s5] [] rfl rfl (Nat.le_of_ble_eq_true rfl) (by decide) ⟨Nat.zero_le _, Nat.zero_le _⟩ 0 0 rfl rfl dX10_sumOf_34 w (fun h2 w => ?_)
  refine r_aload_n C dX10_sumOf_37 rfl 0 rfl ?_
  refine r_getP C fcX10 (f := 3) (by decide) rfl k314 dX10_sumOf_38 (w.mono fun x3 w => ?_)
  refine r_getP C fcX3 (f := 2) (by decide) rfl k189 dX10_sumOf_41 (w.mono fun x4 w => ?_)
  exact r_aret C D rfl (Nat.zero_le _) (Nat.zero_le _) dX10_sumOf_44 w
def PX10_sumOf_0 (E : EV) (post : Option AV → AH → Prop) (h : AH) (l0 : Option Nat) (l1 : Int32) (l2 : Int32) (l3 : Int32) (l4 : Int32) (l5 : Int32) : Prop :=
  rdP h l0 10 3 fun x1 => rdP h l0 10 5 fun x2 => CV (sX8_slot E) x2 8 [aI l2] h (kP fun x3 h4 => rdP h4 l0 10 5 fun x5 => CV (sX8_slot E) x5 8 [aI l4] h4 (kP fun x6 h7 => (¬ l1 = (1 : Int32) → PX10_sumOf_34 E post h7 l0 x1 x3 l3 x6 l5 (0 : Int32)) ∧ (l1 = (1 : Int32) → PX10_sumOf_34 E post h7 l0 x1 x3 l3 x6 l5 (2 : Int32))))
theorem bX10_sumOf_0 {E : EV} {X : AX} {post : Option AV → AH → Prop} (C : Cb E X cX10_sumOf RX10 6 rmX10_sumOf) (D : Cr E X (some (.object "NestingPlanner$Polygon")) rmX10_sumOf "sumOf" post) {h : AH} {l0 : Option Nat} {l1 : Int32} {l2 : Int32} {l3 : Int32} {l4 : Int32} {l5 : Int32} (w : PX10_sumOf_0 E post h l0 l1 l2 l3 l4 l5) : Go E X 6 0 0 0 [(0, aP l0), (1, aI l1), (2, aI l2), (3, aI l3), (4, aI l4), (5, aI l5)] [] h := by
  unfold PX10_sumOf_0 at w
  refine r_aload_n C dX10_sumOf_0 rfl 0 rfl ?_
  refine r_getP C fcX10 (f := 3) (by decide) rfl k314 dX10_sumOf_1 (w.mono fun x1 w => ?_)
  refine r_aload_n C dX10_sumOf_4 rfl 0 rfl ?_
  refine r_getP C fcX10 (f := 5) (by decide) rfl k316 dX10_sumOf_5 (w.mono fun x2 w => ?_)
  refine r_iload_n C dX10_sumOf_8 rfl 2 rfl ?_
  refine r_cvP (rm' := rmX8_slot) C mX8_slot vX8_slot k537 [aI l2] [aP x1] rfl rfl (Nat.le_of_ble_eq_true rfl) (by decide) ⟨Nat.zero_le _, Nat.zero_le _⟩ 0 0 rfl rfl dX10_sumOf_9 w (fun x3 h4 w => ?_)
  refine r_iload_n C dX10_sumOf_12 rfl 3 rfl ?_
  refine r_aload_n C dX10_sumOf_13 rfl 0 rfl ?_
  refine r_getP C fcX10 (f := 5) (by decide) rfl k316 dX10_sumOf_14 (w.mono fun x5 w => ?_)
  refine r_iload C dX10_sumOf_17 4 rfl ?_
  refine r_cvP (rm' := rmX8_slot) C mX8_slot vX8_slot k537 [aI l4] [aI l3, aP x3, aP x1] rfl rfl (Nat.le_of_ble_eq_true rfl) (by decide) ⟨Nat.zero_le _, Nat.zero_le _⟩ 0 0 rfl rfl dX10_sumOf_19 w (fun x6 h7 w => ?_)
  refine r_iload C dX10_sumOf_22 5 rfl ?_
  refine r_iload_n C dX10_sumOf_24 rfl 1 rfl ?_
  refine r_iconst (v := 1) C dX10_sumOf_25 rfl ?_
  refine r_icmp_ne C dX10_sumOf_26 (tgt := 33) rfl (fun hc => ?_) (fun hc => ?_)
  · have w := w.1 hc
    refine r_iconst (v := 0) C dX10_sumOf_33 rfl ?_
    exact r_sub [0] rfl (bX10_sumOf_34 C D w)
  · have w := w.2 hc
    refine r_iconst (v := 2) C dX10_sumOf_29 rfl ?_
    refine r_goto C dX10_sumOf_30 (tgt := 34) rfl ?_
    exact r_sub [0] rfl (bX10_sumOf_34 C D w)
theorem eX10_sumOf {E : EV} {post : Option AV → AH → Prop} {h : AH} {l0 : Option Nat} {l1 : Int32} {l2 : Int32} {l3 : Int32} {l4 : Int32} {l5 : Int32} (w : PX10_sumOf_0 E post h l0 l1 l2 l3 l4 l5) : sX10_sumOf E [aP l0, aI l1, aI l2, aI l3, aI l4, aI l5] h post := Spec.of RX10 rfl rfl (Nat.le_of_ble_eq_true rfl) fun X C D => bX10_sumOf_0 C D w
theorem dX10_sumDoubleArea_0 : decode cX10_sumDoubleArea 0 = .ok (.aload_n 0, 1) := by decide +kernel
theorem dX10_sumDoubleArea_1 : decode cX10_sumDoubleArea 1 = .ok (.iload_n 1, 1) := by decide +kernel
theorem dX10_sumDoubleArea_2 : decode cX10_sumDoubleArea 2 = .ok (.iload_n 2, 1) := by decide +kernel
theorem dX10_sumDoubleArea_3 : decode cX10_sumDoubleArea 3 = .ok (.invokevirtual 139, 3) := by decide +kernel
theorem dX10_sumDoubleArea_6 : decode cX10_sumDoubleArea 6 = .ok (.ifCond .eq 13, 3) := by decide +kernel
theorem dX10_sumDoubleArea_9 : decode cX10_sumDoubleArea 9 = .ok (.aload_n 0, 1) := by decide +kernel
theorem dX10_sumDoubleArea_10 : decode cX10_sumDoubleArea 10 = .ok (.iload_n 3, 1) := by decide +kernel
theorem dX10_sumDoubleArea_11 : decode cX10_sumDoubleArea 11 = .ok (.iload 4, 2) := by decide +kernel
theorem dX10_sumDoubleArea_13 : decode cX10_sumDoubleArea 13 = .ok (.invokevirtual 139, 3) := by decide +kernel
theorem dX10_sumDoubleArea_16 : decode cX10_sumDoubleArea 16 = .ok (.ifCond .ne 6, 3) := by decide +kernel
theorem dX10_sumDoubleArea_19 : decode cX10_sumDoubleArea 19 = .ok (.ldc 88, 2) := by decide +kernel
theorem dX10_sumDoubleArea_21 : decode cX10_sumDoubleArea 21 = .ok (.ireturn, 1) := by decide +kernel
theorem dX10_sumDoubleArea_22 : decode cX10_sumDoubleArea 22 = .ok (.aload_n 0, 1) := by decide +kernel
theorem dX10_sumDoubleArea_23 : decode cX10_sumDoubleArea 23 = .ok (.iconst 0, 1) := by decide +kernel
theorem dX10_sumDoubleArea_24 : decode cX10_sumDoubleArea 24 = .ok (.iload_n 1, 1) := by decide +kernel
theorem dX10_sumDoubleArea_25 : decode cX10_sumDoubleArea 25 = .ok (.iload_n 2, 1) := by decide +kernel
theorem dX10_sumDoubleArea_26 : decode cX10_sumDoubleArea 26 = .ok (.iload_n 3, 1) := by decide +kernel
theorem dX10_sumDoubleArea_27 : decode cX10_sumDoubleArea 27 = .ok (.iload 4, 2) := by decide +kernel
theorem dX10_sumDoubleArea_29 : decode cX10_sumDoubleArea 29 = .ok (.invokevirtual 181, 3) := by decide +kernel
theorem dX10_sumDoubleArea_32 : decode cX10_sumDoubleArea 32 = .ok (.invokevirtual 147, 3) := by decide +kernel
theorem dX10_sumDoubleArea_35 : decode cX10_sumDoubleArea 35 = .ok (.ireturn, 1) := by decide +kernel
abbrev rmX10_sumDoubleArea : Room := { frames := 5, cells := 0, slots := 0, locals := 200 }
abbrev sX10_sumDoubleArea (E : EV) : List AV → AH → (Option AV → AH → Prop) → Prop := Spec E yX10_sumDoubleArea cX10_sumDoubleArea 5 (some .int) rmX10_sumDoubleArea
theorem mX10_sumDoubleArea : Mt yX10_sumDoubleArea cX10_sumDoubleArea 5 (some .int) 4 := ⟨k644, k1, by decide +kernel⟩
theorem vX10_sumDoubleArea : MtV yX10_sumDoubleArea 10 := ⟨k642, k643, by decide, (RX10, TX10, 12), rfl, rfl⟩
def PX10_sumDoubleArea_0 (E : EV) (post : Option AV → AH → Prop) (h : AH) (l0 : Option Nat) (l1 : Int32) (l2 : Int32) (l3 : Int32) (l4 : Int32) : Prop :=
  CV (sX10_hasPiece E) l0 10 [aI l1, aI l2] h (kI fun x1 h2 => (x1 = 0 → post (some (aI (-1000001 : Int32))) h2) ∧ (¬ x1 = 0 → CV (sX10_hasPiece E) l0 10 [aI l3, aI l4] h2 (kI fun x3 h4 => (¬ x3 = 0 → CV (sX10_sumOf E) l0 10 [aI (0 : Int32), aI l1, aI l2, aI l3, aI l4] h4 (kP fun x5 h6 => CV (sX5_areaTwice E) x5 5 [] h6 (kI fun x7 h8 => post (some (aI x7)) h8))) ∧ (x3 = 0 → post (some (aI (-1000001 : Int32))) h4))))
theorem bX10_sumDoubleArea_0 {E : EV} {X : AX} {post : Option AV → AH → Prop} (C : Cb E X cX10_sumDoubleArea RX10 5 rmX10_sumDoubleArea) (D : Cr E X (some .int) rmX10_sumDoubleArea "sumDoubleArea" post) {h : AH} {l0 : Option Nat} {l1 : Int32} {l2 : Int32} {l3 : Int32} {l4 : Int32} (w : PX10_sumDoubleArea_0 E post h l0 l1 l2 l3 l4) : Go E X 5 0 0 0 [(0, aP l0), (1, aI l1), (2, aI l2), (3, aI l3), (4, aI l4)] [] h := by
  unfold PX10_sumDoubleArea_0 at w
  refine r_aload_n C dX10_sumDoubleArea_0 rfl 0 rfl ?_
  refine r_iload_n C dX10_sumDoubleArea_1 rfl 1 rfl ?_
  refine r_iload_n C dX10_sumDoubleArea_2 rfl 2 rfl ?_
  refine r_cvI (rm' := rmX10_hasPiece) C mX10_hasPiece vX10_hasPiece k552 [aI l1, aI l2] [] rfl rfl (Nat.le_of_ble_eq_true rfl) (by decide) ⟨Nat.zero_le _, Nat.zero_le _⟩ 0 0 rfl rfl dX10_sumDoubleArea_3 w (fun x1 h2 w => ?_)
  refine r_if_eq C dX10_sumDoubleArea_6 (tgt := 19) rfl (fun hc => ?_) (fun hc => ?_)
  · have w := w.1 hc
    refine r_ldc (v := -1000001) C dX10_sumDoubleArea_19 k352 ?_
    exact r_iret C D rfl (Nat.zero_le _) (Nat.zero_le _) dX10_sumDoubleArea_21 w
  · have w := w.2 hc
    refine r_aload_n C dX10_sumDoubleArea_9 rfl 0 rfl ?_
    refine r_iload_n C dX10_sumDoubleArea_10 rfl 3 rfl ?_
    refine r_iload C dX10_sumDoubleArea_11 4 rfl ?_
    refine r_cvI (rm' := rmX10_hasPiece) C mX10_hasPiece vX10_hasPiece k552 [aI l3, aI l4] [] rfl rfl (Nat.le_of_ble_eq_true rfl) (by decide) ⟨Nat.zero_le _, Nat.zero_le _⟩ 0 0 rfl rfl dX10_sumDoubleArea_13 w (fun x3 h4 w => ?_)
    refine r_if_ne C dX10_sumDoubleArea_16 (tgt := 22) rfl (fun hc => ?_) (fun hc => ?_)
    · have w := w.1 hc
      refine r_aload_n C dX10_sumDoubleArea_22 rfl 0 rfl ?_
      refine r_iconst (v := 0) C dX10_sumDoubleArea_23 rfl ?_
      refine r_iload_n C dX10_sumDoubleArea_24 rfl 1 rfl ?_
      refine r_iload_n C dX10_sumDoubleArea_25 rfl 2 rfl ?_
      refine r_iload_n C dX10_sumDoubleArea_26 rfl 3 rfl ?_
      refine r_iload C dX10_sumDoubleArea_27 4 rfl ?_
      refine r_cvP (rm' := rmX10_sumOf) C mX10_sumOf vX10_sumOf k621 [aI (0 : Int32), aI l1, aI l2, aI l3, aI l4] [] rfl rfl (Nat.le_of_ble_eq_true rfl) (by decide) ⟨Nat.zero_le _, Nat.zero_le _⟩ 0 0 rfl rfl dX10_sumDoubleArea_29 w (fun x5 h6 w => ?_)
      refine r_cvI (rm' := rmX5_areaTwice) C mX5_areaTwice vX5_areaTwice k562 [] [] rfl rfl (Nat.le_of_ble_eq_true rfl) (by decide) ⟨Nat.zero_le _, Nat.zero_le _⟩ 0 0 rfl rfl dX10_sumDoubleArea_32 w (fun x7 h8 w => ?_)
      exact r_iret C D rfl (Nat.zero_le _) (Nat.zero_le _) dX10_sumDoubleArea_35 w
    · have w := w.2 hc
      refine r_ldc (v := -1000001) C dX10_sumDoubleArea_19 k352 ?_
      exact r_iret C D rfl (Nat.zero_le _) (Nat.zero_le _) dX10_sumDoubleArea_21 w
theorem eX10_sumDoubleArea {E : EV} {post : Option AV → AH → Prop} {h : AH} {l0 : Option Nat} {l1 : Int32} {l2 : Int32} {l3 : Int32} {l4 : Int32} (w : PX10_sumDoubleArea_0 E post h l0 l1 l2 l3 l4) : sX10_sumDoubleArea E [aP l0, aI l1, aI l2, aI l3, aI l4] h post := Spec.of RX10 rfl rfl (Nat.le_of_ble_eq_true rfl) fun X C D => bX10_sumDoubleArea_0 C D w
theorem dX10_sumSize_0 : decode cX10_sumSize 0 = .ok (.iload_n 1, 1) := by decide +kernel
theorem dX10_sumSize_1 : decode cX10_sumSize 1 = .ok (.invokestatic 157, 3) := by decide +kernel
theorem dX10_sumSize_4 : decode cX10_sumSize 4 = .ok (.ifCond .eq 23, 3) := by decide +kernel
theorem dX10_sumSize_7 : decode cX10_sumSize 7 = .ok (.aload_n 0, 1) := by decide +kernel
theorem dX10_sumSize_8 : decode cX10_sumSize 8 = .ok (.iload_n 2, 1) := by decide +kernel
theorem dX10_sumSize_9 : decode cX10_sumSize 9 = .ok (.iload_n 3, 1) := by decide +kernel
theorem dX10_sumSize_10 : decode cX10_sumSize 10 = .ok (.invokevirtual 139, 3) := by decide +kernel
theorem dX10_sumSize_13 : decode cX10_sumSize 13 = .ok (.ifCond .eq 14, 3) := by decide +kernel
theorem dX10_sumSize_16 : decode cX10_sumSize 16 = .ok (.aload_n 0, 1) := by decide +kernel
theorem dX10_sumSize_17 : decode cX10_sumSize 17 = .ok (.iload 4, 2) := by decide +kernel
theorem dX10_sumSize_19 : decode cX10_sumSize 19 = .ok (.iload 5, 2) := by decide +kernel
theorem dX10_sumSize_21 : decode cX10_sumSize 21 = .ok (.invokevirtual 139, 3) := by decide +kernel
theorem dX10_sumSize_24 : decode cX10_sumSize 24 = .ok (.ifCond .ne 6, 3) := by decide +kernel
theorem dX10_sumSize_27 : decode cX10_sumSize 27 = .ok (.ldc 88, 2) := by decide +kernel
theorem dX10_sumSize_29 : decode cX10_sumSize 29 = .ok (.ireturn, 1) := by decide +kernel
theorem dX10_sumSize_30 : decode cX10_sumSize 30 = .ok (.aload_n 0, 1) := by decide +kernel
theorem dX10_sumSize_31 : decode cX10_sumSize 31 = .ok (.iload_n 1, 1) := by decide +kernel
theorem dX10_sumSize_32 : decode cX10_sumSize 32 = .ok (.iload_n 2, 1) := by decide +kernel
theorem dX10_sumSize_33 : decode cX10_sumSize 33 = .ok (.iload_n 3, 1) := by decide +kernel
theorem dX10_sumSize_34 : decode cX10_sumSize 34 = .ok (.iload 4, 2) := by decide +kernel
theorem dX10_sumSize_36 : decode cX10_sumSize 36 = .ok (.iload 5, 2) := by decide +kernel
theorem dX10_sumSize_38 : decode cX10_sumSize 38 = .ok (.invokevirtual 181, 3) := by decide +kernel
theorem dX10_sumSize_41 : decode cX10_sumSize 41 = .ok (.getfield 154, 3) := by decide +kernel
theorem dX10_sumSize_44 : decode cX10_sumSize 44 = .ok (.ireturn, 1) := by decide +kernel
abbrev rmX10_sumSize : Room := { frames := 5, cells := 0, slots := 0, locals := 200 }
abbrev sX10_sumSize (E : EV) : List AV → AH → (Option AV → AH → Prop) → Prop := Spec E yX10_sumSize cX10_sumSize 6 (some .int) rmX10_sumSize
theorem mX10_sumSize : Mt yX10_sumSize cX10_sumSize 6 (some .int) 5 := ⟨k620, k1, by decide +kernel⟩
theorem vX10_sumSize : MtV yX10_sumSize 10 := ⟨k618, k619, by decide, (RX10, TX10, 12), rfl, rfl⟩
def PX10_sumSize_0 (E : EV) (post : Option AV → AH → Prop) (h : AH) (l0 : Option Nat) (l1 : Int32) (l2 : Int32) (l3 : Int32) (l4 : Int32) (l5 : Int32) : Prop :=
  CS (sX10_isPart E) [aI l1] h (kI fun x1 h2 => (x1 = 0 → post (some (aI (-1000001 : Int32))) h2) ∧ (¬ x1 = 0 → CV (sX10_hasPiece E) l0 10 [aI l2, aI l3] h2 (kI fun x3 h4 => (x3 = 0 → post (some (aI (-1000001 : Int32))) h4) ∧ (¬ x3 = 0 → CV (sX10_hasPiece E) l0 10 [aI l4, aI l5] h4 (kI fun x5 h6 => (¬ x5 = 0 → CV (sX10_sumOf E) l0 10 [aI l1, aI l2, aI l3, aI l4, aI l5] h6 (kP fun x7 h8 => rdI h8 x7 5 2 fun x9 => post (some (aI x9)) h8)) ∧ (x5 = 0 → post (some (aI (-1000001 : Int32))) h6))))))
theorem bX10_sumSize_0 {E : EV} {X : AX} {post : Option AV → AH → Prop} (C : Cb E X cX10_sumSize RX10 6 rmX10_sumSize) (D : Cr E X (some .int) rmX10_sumSize "sumSize" post) {h : AH} {l0 : Option Nat} {l1 : Int32} {l2 : Int32} {l3 : Int32} {l4 : Int32} {l5 : Int32} (w : PX10_sumSize_0 E post h l0 l1 l2 l3 l4 l5) : Go E X 6 0 0 0 [(0, aP l0), (1, aI l1), (2, aI l2), (3, aI l3), (4, aI l4), (5, aI l5)] [] h := by
  unfold PX10_sumSize_0 at w
  refine r_iload_n C dX10_sumSize_0 rfl 1 rfl ?_
  refine r_csI (rm' := rmX10_isPart) C mX10_isPart vX10_isPart k590 [aI l1] [] rfl rfl (Nat.le_of_ble_eq_true rfl) (by decide) ⟨Nat.zero_le _, Nat.zero_le _⟩ 0 0 rfl rfl dX10_sumSize_1 w (fun x1 h2 w => ?_)
  refine r_if_eq C dX10_sumSize_4 (tgt := 27) rfl (fun hc => ?_) (fun hc => ?_)
  · have w := w.1 hc
    refine r_ldc (v := -1000001) C dX10_sumSize_27 k352 ?_
    exact r_iret C D rfl (Nat.zero_le _) (Nat.zero_le _) dX10_sumSize_29 w
  · have w := w.2 hc
    refine r_aload_n C dX10_sumSize_7 rfl 0 rfl ?_
    refine r_iload_n C dX10_sumSize_8 rfl 2 rfl ?_
    refine r_iload_n C dX10_sumSize_9 rfl 3 rfl ?_
    refine r_cvI (rm' := rmX10_hasPiece) C mX10_hasPiece vX10_hasPiece k552 [aI l2, aI l3] [] rfl rfl (Nat.le_of_ble_eq_true rfl) (by decide) ⟨Nat.zero_le _, Nat.zero_le _⟩ 0 0 rfl rfl dX10_sumSize_10 w (fun x3 h4 w => ?_)
    refine r_if_eq C dX10_sumSize_13 (tgt := 27) rfl (fun hc => ?_) (fun hc => ?_)
    · have w := w.1 hc
      refine r_ldc (v := -1000001) C dX10_sumSize_27 k352 ?_
      exact r_iret C D rfl (Nat.zero_le _) (Nat.zero_le _) dX10_sumSize_29 w
    · have w := w.2 hc
      refine r_aload_n C dX10_sumSize_16 rfl 0 rfl ?_
      refine r_iload C dX10_sumSize_17 4 rfl ?_
      refine r_iload C dX10_sumSize_19 5 rfl ?_
      refine r_cvI (rm' := rmX10_hasPiece) C mX10_hasPiece vX10_hasPiece k552 [aI l4, aI l5] [] rfl rfl (Nat.le_of_ble_eq_true rfl) (by decide) ⟨Nat.zero_le _, Nat.zero_le _⟩ 0 0 rfl rfl dX10_sumSize_21 w (fun x5 h6 w => ?_)
      refine r_if_ne C dX10_sumSize_24 (tgt := 30) rfl (fun hc => ?_) (fun hc => ?_)
      · have w := w.1 hc
        refine r_aload_n C dX10_sumSize_30 rfl 0 rfl ?_
        refine r_iload_n C dX10_sumSize_31 rfl 1 rfl ?_
        refine r_iload_n C dX10_sumSize_32 rfl 2 rfl ?_
        refine r_iload_n C dX10_sumSize_33 rfl 3 rfl ?_
        refine r_iload C dX10_sumSize_34 4 rfl ?_
        refine r_iload C dX10_sumSize_36 5 rfl ?_
        refine r_cvP (rm' := rmX10_sumOf) C mX10_sumOf vX10_sumOf k621 [aI l1, aI l2, aI l3, aI l4, aI l5] [] rfl rfl (Nat.le_of_ble_eq_true rfl) (by decide) ⟨Nat.zero_le _, Nat.zero_le _⟩ 0 0 rfl rfl dX10_sumSize_38 w (fun x7 h8 w => ?_)
        refine r_getI C fcX5 (f := 2) (by decide) rfl k111 dX10_sumSize_41 (w.mono fun x9 w => ?_)
        exact r_iret C D rfl (Nat.zero_le _) (Nat.zero_le _) dX10_sumSize_44 w
      · have w := w.2 hc
        refine r_ldc (v := -1000001) C dX10_sumSize_27 k352 ?_
        exact r_iret C D rfl (Nat.zero_le _) (Nat.zero_le _) dX10_sumSize_29 w
theorem eX10_sumSize {E : EV} {post : Option AV → AH → Prop} {h : AH} {l0 : Option Nat} {l1 : Int32} {l2 : Int32} {l3 : Int32} {l4 : Int32} {l5 : Int32} (w : PX10_sumSize_0 E post h l0 l1 l2 l3 l4 l5) : sX10_sumSize E [aP l0, aI l1, aI l2, aI l3, aI l4, aI l5] h post := Spec.of RX10 rfl rfl (Nat.le_of_ble_eq_true rfl) fun X C D => bX10_sumSize_0 C D w
theorem dX10_sumVertex_0 : decode cX10_sumVertex 0 = .ok (.iload_n 1, 1) := by decide +kernel
theorem dX10_sumVertex_1 : decode cX10_sumVertex 1 = .ok (.invokestatic 157, 3) := by decide +kernel
theorem dX10_sumVertex_4 : decode cX10_sumVertex 4 = .ok (.ifCond .eq 28, 3) := by decide +kernel
theorem dX10_sumVertex_7 : decode cX10_sumVertex 7 = .ok (.aload_n 0, 1) := by decide +kernel
theorem dX10_sumVertex_8 : decode cX10_sumVertex 8 = .ok (.iload_n 2, 1) := by decide +kernel
theorem dX10_sumVertex_9 : decode cX10_sumVertex 9 = .ok (.iload_n 3, 1) := by decide +kernel
theorem dX10_sumVertex_10 : decode cX10_sumVertex 10 = .ok (.invokevirtual 139, 3) := by decide +kernel
theorem dX10_sumVertex_13 : decode cX10_sumVertex 13 = .ok (.ifCond .eq 19, 3) := by decide +kernel
theorem dX10_sumVertex_16 : decode cX10_sumVertex 16 = .ok (.aload_n 0, 1) := by decide +kernel
theorem dX10_sumVertex_17 : decode cX10_sumVertex 17 = .ok (.iload 4, 2) := by decide +kernel
theorem dX10_sumVertex_19 : decode cX10_sumVertex 19 = .ok (.iload 5, 2) := by decide +kernel
theorem dX10_sumVertex_21 : decode cX10_sumVertex 21 = .ok (.invokevirtual 139, 3) := by decide +kernel
theorem dX10_sumVertex_24 : decode cX10_sumVertex 24 = .ok (.ifCond .eq 8, 3) := by decide +kernel
theorem dX10_sumVertex_27 : decode cX10_sumVertex 27 = .ok (.iload 6, 2) := by decide +kernel
theorem dX10_sumVertex_29 : decode cX10_sumVertex 29 = .ok (.ifCond .ge 6, 3) := by decide +kernel
theorem dX10_sumVertex_32 : decode cX10_sumVertex 32 = .ok (.ldc 88, 2) := by decide +kernel
theorem dX10_sumVertex_34 : decode cX10_sumVertex 34 = .ok (.ireturn, 1) := by decide +kernel
theorem dX10_sumVertex_35 : decode cX10_sumVertex 35 = .ok (.aload_n 0, 1) := by decide +kernel
theorem dX10_sumVertex_36 : decode cX10_sumVertex 36 = .ok (.iload_n 1, 1) := by decide +kernel
theorem dX10_sumVertex_37 : decode cX10_sumVertex 37 = .ok (.iload_n 2, 1) := by decide +kernel
theorem dX10_sumVertex_38 : decode cX10_sumVertex 38 = .ok (.iload_n 3, 1) := by decide +kernel
theorem dX10_sumVertex_39 : decode cX10_sumVertex 39 = .ok (.iload 4, 2) := by decide +kernel
theorem dX10_sumVertex_41 : decode cX10_sumVertex 41 = .ok (.iload 5, 2) := by decide +kernel
theorem dX10_sumVertex_43 : decode cX10_sumVertex 43 = .ok (.invokevirtual 181, 3) := by decide +kernel
theorem dX10_sumVertex_46 : decode cX10_sumVertex 46 = .ok (.astore 7, 2) := by decide +kernel
theorem dX10_sumVertex_48 : decode cX10_sumVertex 48 = .ok (.iload 6, 2) := by decide +kernel
theorem dX10_sumVertex_50 : decode cX10_sumVertex 50 = .ok (.aload 7, 2) := by decide +kernel
theorem dX10_sumVertex_52 : decode cX10_sumVertex 52 = .ok (.getfield 154, 3) := by decide +kernel
theorem dX10_sumVertex_55 : decode cX10_sumVertex 55 = .ok (.if_icmp .lt 6, 3) := by decide +kernel
theorem dX10_sumVertex_58 : decode cX10_sumVertex 58 = .ok (.ldc 160, 2) := by decide +kernel
theorem dX10_sumVertex_60 : decode cX10_sumVertex 60 = .ok (.ireturn, 1) := by decide +kernel
theorem dX10_sumVertex_61 : decode cX10_sumVertex 61 = .ok (.sipush 1000, 3) := by decide +kernel
theorem dX10_sumVertex_64 : decode cX10_sumVertex 64 = .ok (.aload 7, 2) := by decide +kernel
theorem dX10_sumVertex_66 : decode cX10_sumVertex 66 = .ok (.iload 6, 2) := by decide +kernel
theorem dX10_sumVertex_68 : decode cX10_sumVertex 68 = .ok (.invokevirtual 161, 3) := by decide +kernel
theorem dX10_sumVertex_71 : decode cX10_sumVertex 71 = .ok (.imul, 1) := by decide +kernel
theorem dX10_sumVertex_72 : decode cX10_sumVertex 72 = .ok (.aload 7, 2) := by decide +kernel
theorem dX10_sumVertex_74 : decode cX10_sumVertex 74 = .ok (.iload 6, 2) := by decide +kernel
theorem dX10_sumVertex_76 : decode cX10_sumVertex 76 = .ok (.invokevirtual 165, 3) := by decide +kernel
theorem dX10_sumVertex_79 : decode cX10_sumVertex 79 = .ok (.iadd, 1) := by decide +kernel
theorem dX10_sumVertex_80 : decode cX10_sumVertex 80 = .ok (.ireturn, 1) := by decide +kernel
abbrev rmX10_sumVertex : Room := { frames := 5, cells := 0, slots := 0, locals := 200 }
abbrev sX10_sumVertex (E : EV) : List AV → AH → (Option AV → AH → Prop) → Prop := Spec E yX10_sumVertex cX10_sumVertex 8 (some .int) rmX10_sumVertex
theorem mX10_sumVertex : Mt yX10_sumVertex cX10_sumVertex 8 (some .int) 6 := ⟨k640, k1, by decide +kernel⟩
theorem vX10_sumVertex : MtV yX10_sumVertex 10 := ⟨k638, k639, by decide, (RX10, TX10, 12), rfl, rfl⟩
def PX10_sumVertex_0 (E : EV) (post : Option AV → AH → Prop) (h : AH) (l0 : Option Nat) (l1 : Int32) (l2 : Int32) (l3 : Int32) (l4 : Int32) (l5 : Int32) (l6 : Int32) : Prop :=
  CS (sX10_isPart E) [aI l1] h (kI fun x1 h2 => (x1 = 0 → post (some (aI (-1000001 : Int32))) h2) ∧ (¬ x1 = 0 → CV (sX10_hasPiece E) l0 10 [aI l2, aI l3] h2 (kI fun x3 h4 => (x3 = 0 → post (some (aI (-1000001 : Int32))) h4) ∧ (¬ x3 = 0 → CV (sX10_hasPiece E) l0 10 [aI l4, aI l5] h4 (kI fun x5 h6 => (x5 = 0 → post (some (aI (-1000001 : Int32))) h6) ∧ (¬ x5 = 0 → (0 ≤ l6 → CV (sX10_sumOf E) l0 10 [aI l1, aI l2, aI l3, aI l4, aI l5] h6 (kP fun x7 h8 => rdI h8 x7 5 2 fun x10 => (l6 < x10 → CV (sX5_x E) x7 5 [aI l6] h8 (kI fun x11 h12 => CV (sX5_y E) x7 5 [aI l6] h12 (kI fun x13 h14 => post (some (aI (((1000 : Int32) * x11) + x13))) h14))) ∧ (¬ l6 < x10 → post (some (aI (-1000009 : Int32))) h8))) ∧ (¬ 0 ≤ l6 → post (some (aI (-1000001 : Int32))) h6)))))))
theorem bX10_sumVertex_0 {E : EV} {X : AX} {post : Option AV → AH → Prop} (C : Cb E X cX10_sumVertex RX10 8 rmX10_sumVertex) (D : Cr E X (some .int) rmX10_sumVertex "sumVertex" post) {h : AH} {l0 : Option Nat} {l1 : Int32} {l2 : Int32} {l3 : Int32} {l4 : Int32} {l5 : Int32} {l6 : Int32} (w : PX10_sumVertex_0 E post h l0 l1 l2 l3 l4 l5 l6) : Go E X 8 0 0 0 [(0, aP l0), (1, aI l1), (2, aI l2), (3, aI l3), (4, aI l4), (5, aI l5), (6, aI l6)] [] h := by
  unfold PX10_sumVertex_0 at w
  refine r_iload_n C dX10_sumVertex_0 rfl 1 rfl ?_
  refine r_csI (rm' := rmX10_isPart) C mX10_isPart vX10_isPart k590 [aI l1] [] rfl rfl (Nat.le_of_ble_eq_true rfl) (by decide) ⟨Nat.zero_le _, Nat.zero_le _⟩ 0 0 rfl rfl dX10_sumVertex_1 w (fun x1 h2 w => ?_)
  refine r_if_eq C dX10_sumVertex_4 (tgt := 32) rfl (fun hc => ?_) (fun hc => ?_)
  · have w := w.1 hc
    refine r_ldc (v := -1000001) C dX10_sumVertex_32 k352 ?_
    exact r_iret C D rfl (Nat.zero_le _) (Nat.zero_le _) dX10_sumVertex_34 w
  · have w := w.2 hc
    refine r_aload_n C dX10_sumVertex_7 rfl 0 rfl ?_
    refine r_iload_n C dX10_sumVertex_8 rfl 2 rfl ?_
    refine r_iload_n C dX10_sumVertex_9 rfl 3 rfl ?_
    refine r_cvI (rm' := rmX10_hasPiece) C mX10_hasPiece vX10_hasPiece k552 [aI l2, aI l3] [] rfl rfl (Nat.le_of_ble_eq_true rfl) (by decide) ⟨Nat.zero_le _, Nat.zero_le _⟩ 0 0 rfl rfl dX10_sumVertex_10 w (fun x3 h4 w => ?_)
    refine r_if_eq C dX10_sumVertex_13 (tgt := 32) rfl (fun hc => ?_) (fun hc => ?_)
    · have w := w.1 hc
      refine r_ldc (v := -1000001) C dX10_sumVertex_32 k352 ?_
      exact r_iret C D rfl (Nat.zero_le _) (Nat.zero_le _) dX10_sumVertex_34 w
    · have w := w.2 hc
      refine r_aload_n C dX10_sumVertex_16 rfl 0 rfl ?_
      refine r_iload C dX10_sumVertex_17 4 rfl ?_
      refine r_iload C dX10_sumVertex_19 5 rfl ?_
      refine r_cvI (rm' := rmX10_hasPiece) C mX10_hasPiece vX10_hasPiece k552 [aI l4, aI l5] [] rfl rfl (Nat.le_of_ble_eq_true rfl) (by decide) ⟨Nat.zero_le _, Nat.zero_le _⟩ 0 0 rfl rfl dX10_sumVertex_21 w (fun x5 h6 w => ?_)
      refine r_if_eq C dX10_sumVertex_24 (tgt := 32) rfl (fun hc => ?_) (fun hc => ?_)
      · have w := w.1 hc
        refine r_ldc (v := -1000001) C dX10_sumVertex_32 k352 ?_
        exact r_iret C D rfl (Nat.zero_le _) (Nat.zero_le _) dX10_sumVertex_34 w
      · have w := w.2 hc
        refine r_iload C dX10_sumVertex_27 6 rfl ?_
        refine r_if_ge C dX10_sumVertex_29 (tgt := 35) rfl (fun hc => ?_) (fun hc => ?_)
        · have w := w.1 hc
          refine r_aload_n C dX10_sumVertex_35 rfl 0 rfl ?_
          refine r_iload_n C dX10_sumVertex_36 rfl 1 rfl ?_
          refine r_iload_n C dX10_sumVertex_37 rfl 2 rfl ?_
          refine r_iload_n C dX10_sumVertex_38 rfl 3 rfl ?_
          refine r_iload C dX10_sumVertex_39 4 rfl ?_
          refine r_iload C dX10_sumVertex_41 5 rfl ?_
          refine r_cvP (rm' := rmX10_sumOf) C mX10_sumOf vX10_sumOf k621 [aI l1, aI l2, aI l3, aI l4, aI l5] [] rfl rfl (Nat.le_of_ble_eq_true rfl) (by decide) ⟨Nat.zero_le _, Nat.zero_le _⟩ 0 0 rfl rfl dX10_sumVertex_43 w (fun x7 h8 w => ?_)
          refine r_astore C dX10_sumVertex_46 (by decide) rfl ?_
          refine r_iload C dX10_sumVertex_48 7 rfl ?_
          refine r_aload C dX10_sumVertex_50 0 rfl ?_
          refine r_getI C fcX5 (f := 2) (by decide) rfl k111 dX10_sumVertex_52 (w.mono fun x10 w => ?_)
          refine r_icmp_lt C dX10_sumVertex_55 (tgt := 61) rfl (fun hc => ?_) (fun hc => ?_)
          · have w := w.1 hc
            refine r_sipush (v := 1000) C dX10_sumVertex_61 rfl ?_
            refine r_aload C dX10_sumVertex_64 0 rfl ?_
            refine r_iload C dX10_sumVertex_66 7 rfl ?_
            refine r_cvI (rm' := rmX5_x) C mX5_x vX5_x k594 [aI l6] [aI (1000 : Int32)] rfl rfl (Nat.le_of_ble_eq_true rfl) (by decide) ⟨Nat.zero_le _, Nat.zero_le _⟩ 0 0 rfl rfl dX10_sumVertex_68 w (fun x11 h12 w => ?_)
            refine r_imul C dX10_sumVertex_71 ?_
            refine r_aload C dX10_sumVertex_72 0 rfl ?_
            refine r_iload C dX10_sumVertex_74 7 rfl ?_
            refine r_cvI (rm' := rmX5_y) C mX5_y vX5_y k595 [aI l6] [aI ((1000 : Int32) * x11)] rfl rfl (Nat.le_of_ble_eq_true rfl) (by decide) ⟨Nat.zero_le _, Nat.zero_le _⟩ 0 0 rfl rfl dX10_sumVertex_76 w (fun x13 h14 w => ?_)
            refine r_iadd C dX10_sumVertex_79 ?_
            exact r_iret C D rfl (Nat.zero_le _) (Nat.zero_le _) dX10_sumVertex_80 w
          · have w := w.2 hc
            refine r_ldc (v := -1000009) C dX10_sumVertex_58 k593 ?_
            exact r_iret C D rfl (Nat.zero_le _) (Nat.zero_le _) dX10_sumVertex_60 w
        · have w := w.2 hc
          refine r_ldc (v := -1000001) C dX10_sumVertex_32 k352 ?_
          exact r_iret C D rfl (Nat.zero_le _) (Nat.zero_le _) dX10_sumVertex_34 w
theorem eX10_sumVertex {E : EV} {post : Option AV → AH → Prop} {h : AH} {l0 : Option Nat} {l1 : Int32} {l2 : Int32} {l3 : Int32} {l4 : Int32} {l5 : Int32} {l6 : Int32} (w : PX10_sumVertex_0 E post h l0 l1 l2 l3 l4 l5 l6) : sX10_sumVertex E [aP l0, aI l1, aI l2, aI l3, aI l4, aI l5, aI l6] h post := Spec.of RX10 rfl rfl (Nat.le_of_ble_eq_true rfl) fun X C D => bX10_sumVertex_0 C D w
theorem dX10_touchingPairs_0 : decode cX10_touchingPairs 0 = .ok (.iconst 0, 1) := by decide +kernel
theorem dX10_touchingPairs_1 : decode cX10_touchingPairs 1 = .ok (.istore_n 1, 1) := by decide +kernel
theorem dX10_touchingPairs_2 : decode cX10_touchingPairs 2 = .ok (.iconst 0, 1) := by decide +kernel
theorem dX10_touchingPairs_3 : decode cX10_touchingPairs 3 = .ok (.istore_n 2, 1) := by decide +kernel
theorem dX10_touchingPairs_4 : decode cX10_touchingPairs 4 = .ok (.iload_n 2, 1) := by decide +kernel
theorem dX10_touchingPairs_5 : decode cX10_touchingPairs 5 = .ok (.aload_n 0, 1) := by decide +kernel
theorem dX10_touchingPairs_6 : decode cX10_touchingPairs 6 = .ok (.getfield 52, 3) := by decide +kernel
theorem dX10_touchingPairs_9 : decode cX10_touchingPairs 9 = .ok (.getfield 218, 3) := by decide +kernel
theorem dX10_touchingPairs_12 : decode cX10_touchingPairs 12 = .ok (.if_icmp .ge 102, 3) := by decide +kernel
theorem dX10_touchingPairs_15 : decode cX10_touchingPairs 15 = .ok (.iload_n 2, 1) := by decide +kernel
theorem dX10_touchingPairs_16 : decode cX10_touchingPairs 16 = .ok (.iconst 1, 1) := by decide +kernel
theorem dX10_touchingPairs_17 : decode cX10_touchingPairs 17 = .ok (.iadd, 1) := by decide +kernel
theorem dX10_touchingPairs_18 : decode cX10_touchingPairs 18 = .ok (.istore_n 3, 1) := by decide +kernel
theorem dX10_touchingPairs_19 : decode cX10_touchingPairs 19 = .ok (.iload_n 3, 1) := by decide +kernel
theorem dX10_touchingPairs_20 : decode cX10_touchingPairs 20 = .ok (.aload_n 0, 1) := by decide +kernel
theorem dX10_touchingPairs_21 : decode cX10_touchingPairs 21 = .ok (.getfield 52, 3) := by decide +kernel
theorem dX10_touchingPairs_24 : decode cX10_touchingPairs 24 = .ok (.getfield 218, 3) := by decide +kernel
theorem dX10_touchingPairs_27 : decode cX10_touchingPairs 27 = .ok (.if_icmp .ge 81, 3) := by decide +kernel
theorem dX10_touchingPairs_30 : decode cX10_touchingPairs 30 = .ok (.aload_n 0, 1) := by decide +kernel
theorem dX10_touchingPairs_31 : decode cX10_touchingPairs 31 = .ok (.getfield 52, 3) := by decide +kernel
theorem dX10_touchingPairs_34 : decode cX10_touchingPairs 34 = .ok (.iload_n 3, 1) := by decide +kernel
theorem dX10_touchingPairs_35 : decode cX10_touchingPairs 35 = .ok (.invokevirtual 274, 3) := by decide +kernel
theorem dX10_touchingPairs_38 : decode cX10_touchingPairs 38 = .ok (.aload_n 0, 1) := by decide +kernel
theorem dX10_touchingPairs_39 : decode cX10_touchingPairs 39 = .ok (.getfield 52, 3) := by decide +kernel
theorem dX10_touchingPairs_42 : decode cX10_touchingPairs 42 = .ok (.iload_n 2, 1) := by decide +kernel
theorem dX10_touchingPairs_43 : decode cX10_touchingPairs 43 = .ok (.invokevirtual 274, 3) := by decide +kernel
theorem dX10_touchingPairs_46 : decode cX10_touchingPairs 46 = .ok (.isub, 1) := by decide +kernel
theorem dX10_touchingPairs_47 : decode cX10_touchingPairs 47 = .ok (.istore 4, 2) := by decide +kernel
theorem dX10_touchingPairs_49 : decode cX10_touchingPairs 49 = .ok (.aload_n 0, 1) := by decide +kernel
theorem dX10_touchingPairs_50 : decode cX10_touchingPairs 50 = .ok (.getfield 52, 3) := by decide +kernel
theorem dX10_touchingPairs_53 : decode cX10_touchingPairs 53 = .ok (.iload_n 3, 1) := by decide +kernel
theorem dX10_touchingPairs_54 : decode cX10_touchingPairs 54 = .ok (.invokevirtual 275, 3) := by decide +kernel
theorem dX10_touchingPairs_57 : decode cX10_touchingPairs 57 = .ok (.aload_n 0, 1) := by decide +kernel
theorem dX10_touchingPairs_58 : decode cX10_touchingPairs 58 = .ok (.getfield 52, 3) := by decide +kernel
theorem dX10_touchingPairs_61 : decode cX10_touchingPairs 61 = .ok (.iload_n 2, 1) := by decide +kernel
theorem dX10_touchingPairs_62 : decode cX10_touchingPairs 62 = .ok (.invokevirtual 275, 3) := by decide +kernel
theorem dX10_touchingPairs_65 : decode cX10_touchingPairs 65 = .ok (.isub, 1) := by decide +kernel
theorem dX10_touchingPairs_66 : decode cX10_touchingPairs 66 = .ok (.istore 5, 2) := by decide +kernel
theorem dX10_touchingPairs_68 : decode cX10_touchingPairs 68 = .ok (.aload_n 0, 1) := by decide +kernel
theorem dX10_touchingPairs_69 : decode cX10_touchingPairs 69 = .ok (.getfield 36, 3) := by decide +kernel
theorem dX10_touchingPairs_72 : decode cX10_touchingPairs 72 = .ok (.aload_n 0, 1) := by decide +kernel
theorem dX10_touchingPairs_73 : decode cX10_touchingPairs 73 = .ok (.getfield 52, 3) := by decide +kernel
theorem dX10_touchingPairs_76 : decode cX10_touchingPairs 76 = .ok (.iload_n 2, 1) := by decide +kernel
theorem dX10_touchingPairs_77 : decode cX10_touchingPairs 77 = .ok (.invokevirtual 261, 3) := by decide +kernel
theorem dX10_touchingPairs_80 : decode cX10_touchingPairs 80 = .ok (.aload_n 0, 1) := by decide +kernel
theorem dX10_touchingPairs_81 : decode cX10_touchingPairs 81 = .ok (.getfield 52, 3) := by decide +kernel
theorem dX10_touchingPairs_84 : decode cX10_touchingPairs 84 = .ok (.iload_n 3, 1) := by decide +kernel
theorem dX10_touchingPairs_85 : decode cX10_touchingPairs 85 = .ok (.invokevirtual 261, 3) := by decide +kernel
theorem dX10_touchingPairs_88 : decode cX10_touchingPairs 88 = .ok (.iload 4, 2) := by decide +kernel
theorem dX10_touchingPairs_90 : decode cX10_touchingPairs 90 = .ok (.iload 5, 2) := by decide +kernel
theorem dX10_touchingPairs_92 : decode cX10_touchingPairs 92 = .ok (.invokevirtual 191, 3) := by decide +kernel
theorem dX10_touchingPairs_95 : decode cX10_touchingPairs 95 = .ok (.iconst 1, 1) := by decide +kernel
theorem dX10_touchingPairs_96 : decode cX10_touchingPairs 96 = .ok (.if_icmp .ne 6, 3) := by decide +kernel
theorem dX10_touchingPairs_99 : decode cX10_touchingPairs 99 = .ok (.iinc 1 1, 3) := by decide +kernel
theorem dX10_touchingPairs_102 : decode cX10_touchingPairs 102 = .ok (.iinc 3 1, 3) := by decide +kernel
theorem dX10_touchingPairs_105 : decode cX10_touchingPairs 105 = .ok (.goto (-86), 3) := by decide +kernel
theorem dX10_touchingPairs_108 : decode cX10_touchingPairs 108 = .ok (.iinc 2 1, 3) := by decide +kernel
theorem dX10_touchingPairs_111 : decode cX10_touchingPairs 111 = .ok (.goto (-107), 3) := by decide +kernel
theorem dX10_touchingPairs_114 : decode cX10_touchingPairs 114 = .ok (.iload_n 1, 1) := by decide +kernel
theorem dX10_touchingPairs_115 : decode cX10_touchingPairs 115 = .ok (.ireturn, 1) := by decide +kernel
abbrev rmX10_touchingPairs : Room := { frames := 5, cells := 0, slots := 0, locals := 200 }
abbrev sX10_touchingPairs (E : EV) : List AV → AH → (Option AV → AH → Prop) → Prop := Spec E yX10_touchingPairs cX10_touchingPairs 6 (some .int) rmX10_touchingPairs
theorem mX10_touchingPairs : Mt yX10_touchingPairs cX10_touchingPairs 6 (some .int) 0 := ⟨k928, k1, by decide +kernel⟩
theorem vX10_touchingPairs : MtV yX10_touchingPairs 10 := ⟨k926, k927, by decide, (RX10, TX10, 12), rfl, rfl⟩
def PX10_touchingPairs_19 (E : EV) (post : Option AV → AH → Prop) (J4 : AH → Option Nat → Int32 → Int32 → Prop) (J19 : AH → Option Nat → Int32 → Int32 → Int32 → Prop) (h : AH) (l0 : Option Nat) (l1 : Int32) (l2 : Int32) (l3 : Int32) : Prop :=
  rdP h l0 10 5 fun x1 => rdI h x1 8 5 fun x2 => (x2 ≤ l3 → J4 h l0 l1 (l2 + (1 : Int32))) ∧ (¬ x2 ≤ l3 → rdP h l0 10 5 fun x3 => CV (sX8_x E) x3 8 [aI l3] h (kI fun x4 h5 => rdP h5 l0 10 5 fun x6 => CV (sX8_x E) x6 8 [aI l2] h5 (kI fun x7 h8 => ∀ v9, v9 = (x4 - x7) → rdP h8 l0 10 5 fun x10 => CV (sX8_y E) x10 8 [aI l3] h8 (kI fun x11 h12 => rdP h12 l0 10 5 fun x13 => CV (sX8_y E) x13 8 [aI l2] h12 (kI fun x14 h15 => ∀ v16, v16 = (x11 - x14) → rdP h15 l0 10 3 fun x17 => rdP h15 l0 10 5 fun x18 => CV (sX8_shape E) x18 8 [aI l2] h15 (kP fun x19 h20 => rdP h20 l0 10 5 fun x21 => CV (sX8_shape E) x21 8 [aI l3] h20 (kP fun x22 h23 => CV (sX3_relation E) x17 3 [aP x19, aP x22, aI v9, aI v16] h23 (kI fun x24 h25 => (¬ x24 = (1 : Int32) → J19 h25 l0 l1 l2 (l3 + (1 : Int32))) ∧ (x24 = (1 : Int32) → J19 h25 l0 (l1 + (1 : Int32)) l2 (l3 + (1 : Int32)))))))))))
theorem bX10_touchingPairs_19 {E : EV} {X : AX} {post : Option AV → AH → Prop} (C : Cb E X cX10_touchingPairs RX10 6 rmX10_touchingPairs) (D : Cr E X (some .int) rmX10_touchingPairs "touchingPairs" post) {J4 : AH → Option Nat → Int32 → Int32 → Prop} (g4 : ∀ (h : AH) (l0 : Option Nat) (l1 : Int32) (l2 : Int32), J4 h l0 l1 l2 → Go E X 6 0 0 4 [(0, aP l0), (1, aI l1), (2, aI l2)] [] h) {J19 : AH → Option Nat → Int32 → Int32 → Int32 → Prop} (g19 : ∀ (h : AH) (l0 : Option Nat) (l1 : Int32) (l2 : Int32) (l3 : Int32), J19 h l0 l1 l2 l3 → Go E X 6 0 0 19 [(0, aP l0), (1, aI l1), (2, aI l2), (3, aI l3)] [] h) {h : AH} {l0 : Option Nat} {l1 : Int32} {l2 : Int32} {l3 : Int32} (w : PX10_touchingPairs_19 E post J4 J19 h l0 l1 l2 l3) : Go E X 6 0 0 19 [(0, aP l0), (1, aI l1), (2, aI l2), (3, aI l3)] [] h := by
  unfold PX10_touchingPairs_19 at w
  refine r_iload_n C dX10_touchingPairs_19 rfl 3 rfl ?_
  refine r_aload_n C dX10_touchingPairs_20 rfl 0 rfl ?_
  refine r_getP C fcX10 (f := 5) (by decide) rfl k316 dX10_touchingPairs_21 (w.mono fun x1 w => ?_)
  refine r_getI C fcX8 (f := 5) (by decide) rfl k261 dX10_touchingPairs_24 (w.mono fun x2 w => ?_)
  refine r_icmp_ge C dX10_touchingPairs_27 (tgt := 108) rfl (fun hc => ?_) (fun hc => ?_)
  · have w := w.1 hc
    refine r_iinc C dX10_touchingPairs_108 2 rfl (v := 1) rfl (by decide) rfl ?_
    refine r_goto C dX10_touchingPairs_111 (tgt := 4) rfl ?_
    exact r_sub [1, 2, 0] rfl (g4 h l0 l1 (l2 + (1 : Int32)) w)
  · have w := w.2 hc
    refine r_aload_n C dX10_touchingPairs_30 rfl 0 rfl ?_
    refine r_getP C fcX10 (f := 5) (by decide) rfl k316 dX10_touchingPairs_31 (w.mono fun x3 w => ?_)
    refine r_iload_n C dX10_touchingPairs_34 rfl 3 rfl ?_
    refine r_cvI (rm' := rmX8_x) C mX8_x vX8_x k743 [aI l3] [] rfl rfl (Nat.le_of_ble_eq_true rfl) (by decide) ⟨Nat.zero_le _, Nat.zero_le _⟩ 0 0 rfl rfl dX10_touchingPairs_35 w (fun x4 h5 w => ?_)
    refine r_aload_n C dX10_touchingPairs_38 rfl 0 rfl ?_
    refine r_getP C fcX10 (f := 5) (by decide) rfl k316 dX10_touchingPairs_39 (w.mono fun x6 w => ?_)
    refine r_iload_n C dX10_touchingPairs_42 rfl 2 rfl ?_
    refine r_cvI (rm' := rmX8_x) C mX8_x vX8_x k743 [aI l2] [aI x4] rfl rfl (Nat.le_of_ble_eq_true rfl) (by decide) ⟨Nat.zero_le _, Nat.zero_le _⟩ 0 0 rfl rfl dX10_touchingPairs_43 w (fun x7 h8 w => ?_)
    refine r_isub C dX10_touchingPairs_46 ?_
    refine r_istore C dX10_touchingPairs_47 (by decide) rfl ?_
    have w := w _ rfl
    skip
    refine r_aload_n C dX10_touchingPairs_49 rfl 1 rfl ?_
    refine r_getP C fcX10 (f := 5) (by decide) rfl k316 dX10_touchingPairs_50 (w.mono fun x10 w => ?_)
    refine r_iload_n C dX10_touchingPairs_53 rfl 4 rfl ?_
    refine r_cvI (rm' := rmX8_y) C mX8_y vX8_y k744 [aI l3] [] rfl rfl (Nat.le_of_ble_eq_true rfl) (by decide) ⟨Nat.zero_le _, Nat.zero_le _⟩ 0 0 rfl rfl dX10_touchingPairs_54 w (fun x11 h12 w => ?_)
    refine r_aload_n C dX10_touchingPairs_57 rfl 1 rfl ?_
    refine r_getP C fcX10 (f := 5) (by decide) rfl k316 dX10_touchingPairs_58 (w.mono fun x13 w => ?_)
    refine r_iload_n C dX10_touchingPairs_61 rfl 3 rfl ?_
    refine r_cvI (rm' := rmX8_y) C mX8_y vX8_y k744 [aI l2] [aI x11] rfl rfl (Nat.le_of_ble_eq_true rfl) (by decide) ⟨Nat.zero_le _, Nat.zero_le _⟩ 0 0 rfl rfl dX10_touchingPairs_62 w (fun x14 h15 w => ?_)
    refine r_isub C dX10_touchingPairs_65 ?_
    refine r_istore C dX10_touchingPairs_66 (by decide) rfl ?_
    have w := w _ rfl
    skip
    refine r_aload_n C dX10_touchingPairs_68 rfl 2 rfl ?_
    refine r_getP C fcX10 (f := 3) (by decide) rfl k314 dX10_touchingPairs_69 (w.mono fun x17 w => ?_)
    refine r_aload_n C dX10_touchingPairs_72 rfl 2 rfl ?_
    refine r_getP C fcX10 (f := 5) (by decide) rfl k316 dX10_touchingPairs_73 (w.mono fun x18 w => ?_)
    refine r_iload_n C dX10_touchingPairs_76 rfl 4 rfl ?_
    refine r_cvP (rm' := rmX8_shape) C mX8_shape vX8_shape k725 [aI l2] [aP x17] rfl rfl (Nat.le_of_ble_eq_true rfl) (by decide) ⟨Nat.zero_le _, Nat.zero_le _⟩ 0 0 rfl rfl dX10_touchingPairs_77 w (fun x19 h20 w => ?_)
    refine r_aload_n C dX10_touchingPairs_80 rfl 2 rfl ?_
    refine r_getP C fcX10 (f := 5) (by decide) rfl k316 dX10_touchingPairs_81 (w.mono fun x21 w => ?_)
    refine r_iload_n C dX10_touchingPairs_84 rfl 5 rfl ?_
    refine r_cvP (rm' := rmX8_shape) C mX8_shape vX8_shape k725 [aI l3] [aP x19, aP x17] rfl rfl (Nat.le_of_ble_eq_true rfl) (by decide) ⟨Nat.zero_le _, Nat.zero_le _⟩ 0 0 rfl rfl dX10_touchingPairs_85 w (fun x22 h23 w => ?_)
    refine r_iload C dX10_touchingPairs_88 1 rfl ?_
    refine r_iload C dX10_touchingPairs_90 0 rfl ?_
    refine r_cvI (rm' := rmX3_relation) C mX3_relation vX3_relation k656 [aP x19, aP x22, aI (x4 - x7), aI (x11 - x14)] [] rfl rfl (Nat.le_of_ble_eq_true rfl) (by decide) ⟨Nat.zero_le _, Nat.zero_le _⟩ 0 0 rfl rfl dX10_touchingPairs_92 w (fun x24 h25 w => ?_)
    refine r_iconst (v := 1) C dX10_touchingPairs_95 rfl ?_
    refine r_icmp_ne C dX10_touchingPairs_96 (tgt := 102) rfl (fun hc => ?_) (fun hc => ?_)
    · have w := w.1 hc
      refine r_iinc C dX10_touchingPairs_102 5 rfl (v := 1) rfl (by decide) rfl ?_
      refine r_goto C dX10_touchingPairs_105 (tgt := 19) rfl ?_
      exact r_sub [3, 4, 5, 0] rfl (g19 h25 l0 l1 l2 (l3 + (1 : Int32)) w)
    · have w := w.2 hc
      refine r_iinc C dX10_touchingPairs_99 3 rfl (v := 1) rfl (by decide) rfl ?_
      refine r_iinc C dX10_touchingPairs_102 5 rfl (v := 1) rfl (by decide) rfl ?_
      refine r_goto C dX10_touchingPairs_105 (tgt := 19) rfl ?_
      exact r_sub [4, 1, 5, 0] rfl (g19 h25 l0 (l1 + (1 : Int32)) l2 (l3 + (1 : Int32)) w)
theorem lpX10_touchingPairs_19 {E : EV} {X : AX} {post : Option AV → AH → Prop} (C : Cb E X cX10_touchingPairs RX10 6 rmX10_touchingPairs) (D : Cr E X (some .int) rmX10_touchingPairs "touchingPairs" post) {J4 : AH → Option Nat → Int32 → Int32 → Prop} (g4 : ∀ (h : AH) (l0 : Option Nat) (l1 : Int32) (l2 : Int32), J4 h l0 l1 l2 → Go E X 6 0 0 4 [(0, aP l0), (1, aI l1), (2, aI l2)] [] h) (I : Nat → AH → Option Nat → Int32 → Int32 → Int32 → Prop) (step : ∀ (z : Nat) (h : AH) (l0 : Option Nat) (l1 : Int32) (l2 : Int32) (l3 : Int32), I z h l0 l1 l2 l3 → PX10_touchingPairs_19 E post J4 (fun h l0 l1 l2 l3 => ∃ z', z' < z ∧ I z' h l0 l1 l2 l3) h l0 l1 l2 l3) : ∀ (z : Nat) (h : AH) (l0 : Option Nat) (l1 : Int32) (l2 : Int32) (l3 : Int32), I z h l0 l1 l2 l3 → Go E X 6 0 0 19 [(0, aP l0), (1, aI l1), (2, aI l2), (3, aI l3)] [] h := by
  intro z
  induction z using Nat.strongRecOn with
  | _ z ih =>
    intro h l0 l1 l2 l3 hI
    exact bX10_touchingPairs_19 C D g4 (fun h l0 l1 l2 l3 hJ => by obtain ⟨z', hz, hi⟩ := hJ; exact ih z' hz h l0 l1 l2 l3 hi) (step z h l0 l1 l2 l3 hI)
def PX10_touchingPairs_4 (E : EV) (post : Option AV → AH → Prop) (J19 : AH → Option Nat → Int32 → Int32 → Int32 → Prop) (h : AH) (l0 : Option Nat) (l1 : Int32) (l2 : Int32) : Prop :=
  rdP h l0 10 5 fun x1 => rdI h x1 8 5 fun x2 => (x2 ≤ l2 → post (some (aI l1)) h) ∧ (¬ x2 ≤ l2 → ∀ v3, v3 = (l2 + (1 : Int32)) → J19 h l0 l1 l2 v3)
theorem bX10_touchingPairs_4 {E : EV} {X : AX} {post : Option AV → AH → Prop} (C : Cb E X cX10_touchingPairs RX10 6 rmX10_touchingPairs) (D : Cr E X (some .int) rmX10_touchingPairs "touchingPairs" post) {J19 : AH → Option Nat → Int32 → Int32 → Int32 → Prop} (g19 : ∀ (h : AH) (l0 : Option Nat) (l1 : Int32) (l2 : Int32) (l3 : Int32), J19 h l0 l1 l2 l3 → Go E X 6 0 0 19 [(0, aP l0), (1, aI l1), (2, aI l2), (3, aI l3)] [] h) {h : AH} {l0 : Option Nat} {l1 : Int32} {l2 : Int32} (w : PX10_touchingPairs_4 E post J19 h l0 l1 l2) : Go E X 6 0 0 4 [(0, aP l0), (1, aI l1), (2, aI l2)] [] h := by
  unfold PX10_touchingPairs_4 at w
  refine r_iload_n C dX10_touchingPairs_4 rfl 2 rfl ?_
  refine r_aload_n C dX10_touchingPairs_5 rfl 0 rfl ?_
  refine r_getP C fcX10 (f := 5) (by decide) rfl k316 dX10_touchingPairs_6 (w.mono fun x1 w => ?_)
  refine r_getI C fcX8 (f := 5) (by decide) rfl k261 dX10_touchingPairs_9 (w.mono fun x2 w => ?_)
  refine r_icmp_ge C dX10_touchingPairs_12 (tgt := 114) rfl (fun hc => ?_) (fun hc => ?_)
  · have w := w.1 hc
    refine r_iload_n C dX10_touchingPairs_114 rfl 1 rfl ?_
    exact r_iret C D rfl (Nat.zero_le _) (Nat.zero_le _) dX10_touchingPairs_115 w
  · have w := w.2 hc
    refine r_iload_n C dX10_touchingPairs_15 rfl 2 rfl ?_
    refine r_iconst (v := 1) C dX10_touchingPairs_16 rfl ?_
    refine r_iadd C dX10_touchingPairs_17 ?_
    refine r_istore_n C dX10_touchingPairs_18 rfl (by decide) rfl ?_
    have w := w _ rfl
    skip
    exact r_sub [1, 2, 3, 0] rfl (g19 h l0 l1 l2 (l2 + (1 : Int32)) w)
def PX10_touchingPairs_0 (E : EV) (post : Option AV → AH → Prop) (J4 : AH → Option Nat → Int32 → Int32 → Prop) (h : AH) (l0 : Option Nat) : Prop :=
  J4 h l0 (0 : Int32) (0 : Int32)
theorem bX10_touchingPairs_0 {E : EV} {X : AX} {post : Option AV → AH → Prop} (C : Cb E X cX10_touchingPairs RX10 6 rmX10_touchingPairs) (D : Cr E X (some .int) rmX10_touchingPairs "touchingPairs" post) {J4 : AH → Option Nat → Int32 → Int32 → Prop} (g4 : ∀ (h : AH) (l0 : Option Nat) (l1 : Int32) (l2 : Int32), J4 h l0 l1 l2 → Go E X 6 0 0 4 [(0, aP l0), (1, aI l1), (2, aI l2)] [] h) {h : AH} {l0 : Option Nat} (w : PX10_touchingPairs_0 E post J4 h l0) : Go E X 6 0 0 0 [(0, aP l0)] [] h := by
  unfold PX10_touchingPairs_0 at w
  refine r_iconst (v := 0) C dX10_touchingPairs_0 rfl ?_
  refine r_istore_n C dX10_touchingPairs_1 rfl (by decide) rfl ?_
  refine r_iconst (v := 0) C dX10_touchingPairs_2 rfl ?_
  refine r_istore_n C dX10_touchingPairs_3 rfl (by decide) rfl ?_
  exact r_sub [2, 1, 0] rfl (g4 h l0 (0 : Int32) (0 : Int32) w)
theorem eX10_touchingPairs {E : EV} {post : Option AV → AH → Prop} {h : AH} {l0 : Option Nat} {J4 : AH → Option Nat → Int32 → Int32 → Prop} (g4 : ∀ X : AX, Cb E X cX10_touchingPairs RX10 6 rmX10_touchingPairs → Cr E X (some .int) rmX10_touchingPairs "touchingPairs" post → ∀ (h : AH) (l0 : Option Nat) (l1 : Int32) (l2 : Int32), J4 h l0 l1 l2 → Go E X 6 0 0 4 [(0, aP l0), (1, aI l1), (2, aI l2)] [] h) (w : PX10_touchingPairs_0 E post J4 h l0) : sX10_touchingPairs E [aP l0] h post := Spec.of RX10 rfl rfl (Nat.le_of_ble_eq_true rfl) fun X C D => bX10_touchingPairs_0 C D (g4 X C D) w
theorem dX10_undo_0 : decode cX10_undo 0 = .ok (.aload_n 0, 1) := by decide +kernel
theorem dX10_undo_1 : decode cX10_undo 1 = .ok (.getfield 62, 3) := by decide +kernel
theorem dX10_undo_4 : decode cX10_undo 4 = .ok (.getfield 318, 3) := by decide +kernel
theorem dX10_undo_7 : decode cX10_undo 7 = .ok (.ifCond .ne 6, 3) := by decide +kernel
theorem dX10_undo_10 : decode cX10_undo 10 = .ok (.ldc 124, 2) := by decide +kernel
theorem dX10_undo_12 : decode cX10_undo 12 = .ok (.ireturn, 1) := by decide +kernel
theorem dX10_undo_13 : decode cX10_undo 13 = .ok (.aload_n 0, 1) := by decide +kernel
theorem dX10_undo_14 : decode cX10_undo 14 = .ok (.getfield 62, 3) := by decide +kernel
theorem dX10_undo_17 : decode cX10_undo 17 = .ok (.aload_n 0, 1) := by decide +kernel
theorem dX10_undo_18 : decode cX10_undo 18 = .ok (.getfield 52, 3) := by decide +kernel
theorem dX10_undo_21 : decode cX10_undo 21 = .ok (.invokevirtual 319, 3) := by decide +kernel
theorem dX10_undo_24 : decode cX10_undo 24 = .ok (.aload_n 0, 1) := by decide +kernel
theorem dX10_undo_25 : decode cX10_undo 25 = .ok (.getfield 62, 3) := by decide +kernel
theorem dX10_undo_28 : decode cX10_undo 28 = .ok (.getfield 318, 3) := by decide +kernel
theorem dX10_undo_31 : decode cX10_undo 31 = .ok (.ireturn, 1) := by decide +kernel
abbrev rmX10_undo : Room := { frames := 4, cells := 0, slots := 0, locals := 160 }
abbrev sX10_undo (E : EV) : List AV → AH → (Option AV → AH → Prop) → Prop := Spec E yX10_undo cX10_undo 1 (some .int) rmX10_undo
theorem mX10_undo : Mt yX10_undo cX10_undo 1 (some .int) 0 := ⟨k932, k1, by decide +kernel⟩
theorem vX10_undo : MtV yX10_undo 10 := ⟨k930, k931, by decide, (RX10, TX10, 12), rfl, rfl⟩
def PX10_undo_0 (E : EV) (post : Option AV → AH → Prop) (h : AH) (l0 : Option Nat) : Prop :=
  rdP h l0 10 7 fun x1 => rdI h x1 1 1 fun x2 => (¬ x2 = 0 → rdP h l0 10 7 fun x3 => rdP h l0 10 5 fun x4 => CV (sX1_restore E) x3 1 [aP x4] h (kV fun h6 => rdP h6 l0 10 7 fun x7 => rdI h6 x7 1 1 fun x8 => post (some (aI x8)) h6)) ∧ (x2 = 0 → post (some (aI (-1000002 : Int32))) h)
theorem bX10_undo_0 {E : EV} {X : AX} {post : Option AV → AH → Prop} (C : Cb E X cX10_undo RX10 1 rmX10_undo) (D : Cr E X (some .int) rmX10_undo "undo" post) {h : AH} {l0 : Option Nat} (w : PX10_undo_0 E post h l0) : Go E X 1 0 0 0 [(0, aP l0)] [] h := by
  unfold PX10_undo_0 at w
  refine r_aload_n C dX10_undo_0 rfl 0 rfl ?_
  refine r_getP C fcX10 (f := 7) (by decide) rfl k318 dX10_undo_1 (w.mono fun x1 w => ?_)
  refine r_getI C fcX1 (f := 1) (by decide) rfl k301 dX10_undo_4 (w.mono fun x2 w => ?_)
  refine r_if_ne C dX10_undo_7 (tgt := 13) rfl (fun hc => ?_) (fun hc => ?_)
  · have w := w.1 hc
    refine r_aload_n C dX10_undo_13 rfl 0 rfl ?_
    refine r_getP C fcX10 (f := 7) (by decide) rfl k318 dX10_undo_14 (w.mono fun x3 w => ?_)
    refine r_aload_n C dX10_undo_17 rfl 0 rfl ?_
    refine r_getP C fcX10 (f := 5) (by decide) rfl k316 dX10_undo_18 (w.mono fun x4 w => ?_)
    refine r_cvV (rm' := rmX1_restore) C mX1_restore vX1_restore k933 [aP x4] [] rfl rfl (Nat.le_of_ble_eq_true rfl) (by decide) ⟨Nat.zero_le _, Nat.zero_le _⟩ 0 0 rfl rfl dX10_undo_21 w (fun h6 w => ?_)
    refine r_aload_n C dX10_undo_24 rfl 0 rfl ?_
    refine r_getP C fcX10 (f := 7) (by decide) rfl k318 dX10_undo_25 (w.mono fun x7 w => ?_)
    refine r_getI C fcX1 (f := 1) (by decide) rfl k301 dX10_undo_28 (w.mono fun x8 w => ?_)
    exact r_iret C D rfl (Nat.zero_le _) (Nat.zero_le _) dX10_undo_31 w
  · have w := w.2 hc
    refine r_ldc (v := -1000002) C dX10_undo_10 k539 ?_
    exact r_iret C D rfl (Nat.zero_le _) (Nat.zero_le _) dX10_undo_12 w
theorem eX10_undo {E : EV} {post : Option AV → AH → Prop} {h : AH} {l0 : Option Nat} (w : PX10_undo_0 E post h l0) : sX10_undo E [aP l0] h post := Spec.of RX10 rfl rfl (Nat.le_of_ble_eq_true rfl) fun X C D => bX10_undo_0 C D w
theorem dX11_in_0 : decode cX11_in 0 = .ok (.iload_n 0, 1) := by decide +kernel
theorem dX11_in_1 : decode cX11_in 1 = .ok (.iload_n 1, 1) := by decide +kernel
theorem dX11_in_2 : decode cX11_in 2 = .ok (.if_icmp .lt 12, 3) := by decide +kernel
theorem dX11_in_5 : decode cX11_in 5 = .ok (.iload_n 0, 1) := by decide +kernel
theorem dX11_in_6 : decode cX11_in 6 = .ok (.iload_n 2, 1) := by decide +kernel
theorem dX11_in_7 : decode cX11_in 7 = .ok (.if_icmp .gt 7, 3) := by decide +kernel
theorem dX11_in_10 : decode cX11_in 10 = .ok (.iconst 1, 1) := by decide +kernel
theorem dX11_in_11 : decode cX11_in 11 = .ok (.goto 4, 3) := by decide +kernel
theorem dX11_in_14 : decode cX11_in 14 = .ok (.iconst 0, 1) := by decide +kernel
theorem dX11_in_15 : decode cX11_in 15 = .ok (.ireturn, 1) := by decide +kernel
abbrev rmX11_in : Room := { frames := 0, cells := 0, slots := 0, locals := 0 }
abbrev sX11_in (E : EV) : List AV → AH → (Option AV → AH → Prop) → Prop := Spec E yX11_in cX11_in 3 (some .boolean) rmX11_in
theorem mX11_in : Mt yX11_in cX11_in 3 (some .boolean) 3 := ⟨k1038, k12, by decide +kernel⟩
theorem vX11_in : MtS yX11_in := k1037
def PX11_in_0 (E : EV) (post : Option AV → AH → Prop) (h : AH) (l0 : Int32) (l1 : Int32) (l2 : Int32) : Prop :=
  (l0 < l1 → post (some (aI (0 : Int32))) h) ∧ (¬ l0 < l1 → (l2 < l0 → post (some (aI (0 : Int32))) h) ∧ (¬ l2 < l0 → post (some (aI (1 : Int32))) h))
theorem bX11_in_0 {E : EV} {X : AX} {post : Option AV → AH → Prop} (C : Cb E X cX11_in RX11 3 rmX11_in) (D : Cr E X (some .boolean) rmX11_in "in" post) {h : AH} {l0 : Int32} {l1 : Int32} {l2 : Int32} (w : PX11_in_0 E post h l0 l1 l2) : Go E X 3 0 0 0 [(0, aI l0), (1, aI l1), (2, aI l2)] [] h := by
  unfold PX11_in_0 at w
  refine r_iload_n C dX11_in_0 rfl 0 rfl ?_
  refine r_iload_n C dX11_in_1 rfl 1 rfl ?_
  refine r_icmp_lt C dX11_in_2 (tgt := 14) rfl (fun hc => ?_) (fun hc => ?_)
  · have w := w.1 hc
    refine r_iconst (v := 0) C dX11_in_14 rfl ?_
    exact r_zret C D rfl (Or.inl rfl) (Nat.zero_le _) (Nat.zero_le _) dX11_in_15 w
  · have w := w.2 hc
    refine r_iload_n C dX11_in_5 rfl 0 rfl ?_
    refine r_iload_n C dX11_in_6 rfl 2 rfl ?_
    refine r_icmp_gt C dX11_in_7 (tgt := 14) rfl (fun hc => ?_) (fun hc => ?_)
    · have w := w.1 hc
      refine r_iconst (v := 0) C dX11_in_14 rfl ?_
      exact r_zret C D rfl (Or.inl rfl) (Nat.zero_le _) (Nat.zero_le _) dX11_in_15 w
    · have w := w.2 hc
      refine r_iconst (v := 1) C dX11_in_10 rfl ?_
      refine r_goto C dX11_in_11 (tgt := 15) rfl ?_
      exact r_zret C D rfl (Or.inr rfl) (Nat.zero_le _) (Nat.zero_le _) dX11_in_15 w
theorem eX11_in {E : EV} {post : Option AV → AH → Prop} {h : AH} {l0 : Int32} {l1 : Int32} {l2 : Int32} (w : PX11_in_0 E post h l0 l1 l2) : sX11_in E [aI l0, aI l1, aI l2] h post := Spec.of RX11 rfl rfl (Nat.le_of_ble_eq_true rfl) fun X C D => bX11_in_0 C D w
theorem dX11_appendCharacter_0 : decode cX11_appendCharacter 0 = .ok (.iload_n 1, 1) := by decide +kernel
theorem dX11_appendCharacter_1 : decode cX11_appendCharacter 1 = .ok (.iconst 0, 1) := by decide +kernel
theorem dX11_appendCharacter_2 : decode cX11_appendCharacter 2 = .ok (.sipush 255, 3) := by decide +kernel
theorem dX11_appendCharacter_5 : decode cX11_appendCharacter 5 = .ok (.invokestatic 46, 3) := by decide +kernel
theorem dX11_appendCharacter_8 : decode cX11_appendCharacter 8 = .ok (.ifCond .ne 6, 3) := by decide +kernel
theorem dX11_appendCharacter_11 : decode cX11_appendCharacter 11 = .ok (.ldc 145, 2) := by decide +kernel
theorem dX11_appendCharacter_13 : decode cX11_appendCharacter 13 = .ok (.ireturn, 1) := by decide +kernel
theorem dX11_appendCharacter_14 : decode cX11_appendCharacter 14 = .ok (.aload_n 0, 1) := by decide +kernel
theorem dX11_appendCharacter_15 : decode cX11_appendCharacter 15 = .ok (.getfield 146, 3) := by decide +kernel
theorem dX11_appendCharacter_18 : decode cX11_appendCharacter 18 = .ok (.sipush 150, 3) := by decide +kernel
theorem dX11_appendCharacter_21 : decode cX11_appendCharacter 21 = .ok (.if_icmp .ne 6, 3) := by decide +kernel
theorem dX11_appendCharacter_24 : decode cX11_appendCharacter 24 = .ok (.ldc 149, 2) := by decide +kernel
theorem dX11_appendCharacter_26 : decode cX11_appendCharacter 26 = .ok (.ireturn, 1) := by decide +kernel
theorem dX11_appendCharacter_27 : decode cX11_appendCharacter 27 = .ok (.aload_n 0, 1) := by decide +kernel
theorem dX11_appendCharacter_28 : decode cX11_appendCharacter 28 = .ok (.getfield 16, 3) := by decide +kernel
theorem dX11_appendCharacter_31 : decode cX11_appendCharacter 31 = .ok (.aload_n 0, 1) := by decide +kernel
theorem dX11_appendCharacter_32 : decode cX11_appendCharacter 32 = .ok (.getfield 146, 3) := by decide +kernel
theorem dX11_appendCharacter_35 : decode cX11_appendCharacter 35 = .ok (.iload_n 1, 1) := by decide +kernel
theorem dX11_appendCharacter_36 : decode cX11_appendCharacter 36 = .ok (.i2b, 1) := by decide +kernel
theorem dX11_appendCharacter_37 : decode cX11_appendCharacter 37 = .ok (.bastore, 1) := by decide +kernel
theorem dX11_appendCharacter_38 : decode cX11_appendCharacter 38 = .ok (.aload_n 0, 1) := by decide +kernel
theorem dX11_appendCharacter_39 : decode cX11_appendCharacter 39 = .ok (.dup, 1) := by decide +kernel
theorem dX11_appendCharacter_40 : decode cX11_appendCharacter 40 = .ok (.getfield 146, 3) := by decide +kernel
theorem dX11_appendCharacter_43 : decode cX11_appendCharacter 43 = .ok (.iconst 1, 1) := by decide +kernel
theorem dX11_appendCharacter_44 : decode cX11_appendCharacter 44 = .ok (.iadd, 1) := by decide +kernel
theorem dX11_appendCharacter_45 : decode cX11_appendCharacter 45 = .ok (.putfield 146, 3) := by decide +kernel
theorem dX11_appendCharacter_48 : decode cX11_appendCharacter 48 = .ok (.aload_n 0, 1) := by decide +kernel
theorem dX11_appendCharacter_49 : decode cX11_appendCharacter 49 = .ok (.getfield 146, 3) := by decide +kernel
theorem dX11_appendCharacter_52 : decode cX11_appendCharacter 52 = .ok (.ireturn, 1) := by decide +kernel
abbrev rmX11_appendCharacter : Room := { frames := 1, cells := 0, slots := 0, locals := 40 }
abbrev sX11_appendCharacter (E : EV) : List AV → AH → (Option AV → AH → Prop) → Prop := Spec E yX11_appendCharacter cX11_appendCharacter 2 (some .int) rmX11_appendCharacter
theorem mX11_appendCharacter : Mt yX11_appendCharacter cX11_appendCharacter 2 (some .int) 1 := ⟨k1035, k12, by decide +kernel⟩
theorem vX11_appendCharacter : MtV yX11_appendCharacter 11 := ⟨k1033, k1034, by decide, (RX11, TX11, 26), rfl, rfl⟩
def PX11_appendCharacter_0 (E : EV) (post : Option AV → AH → Prop) (h : AH) (l0 : Option Nat) (l1 : Int32) : Prop :=
  CS (sX11_in E) [aI l1, aI (0 : Int32), aI (255 : Int32)] h (kI fun x1 h2 => (¬ x1 = 0 → rdI h2 l0 11 4 fun x3 => (¬ x3 = (150 : Int32) → rdP h2 l0 11 3 fun x4 => rdI h2 l0 11 4 fun x5 => astI h2 x4 1 x5 l1.toInt8.toInt32.toInt8.toInt32 fun h6 => rdI h6 l0 11 4 fun x7 => wr h6 l0 11 4 (aI (x7 + (1 : Int32))) fun h8 => rdI h8 l0 11 4 fun x9 => post (some (aI x9)) h8) ∧ (x3 = (150 : Int32) → post (some (aI (-1000003 : Int32))) h2)) ∧ (x1 = 0 → post (some (aI (-1000001 : Int32))) h2))
theorem bX11_appendCharacter_0 {E : EV} {X : AX} {post : Option AV → AH → Prop} (C : Cb E X cX11_appendCharacter RX11 2 rmX11_appendCharacter) (D : Cr E X (some .int) rmX11_appendCharacter "appendCharacter" post) {h : AH} {l0 : Option Nat} {l1 : Int32} (w : PX11_appendCharacter_0 E post h l0 l1) : Go E X 2 0 0 0 [(0, aP l0), (1, aI l1)] [] h := by
  unfold PX11_appendCharacter_0 at w
  refine r_iload_n C dX11_appendCharacter_0 rfl 1 rfl ?_
  refine r_iconst (v := 0) C dX11_appendCharacter_1 rfl ?_
  refine r_sipush (v := 255) C dX11_appendCharacter_2 rfl ?_
  refine r_csI (rm' := rmX11_in) C mX11_in vX11_in k1036 [aI l1, aI (0 : Int32), aI (255 : Int32)] [] rfl rfl (Nat.le_of_ble_eq_true rfl) (by decide) ⟨Nat.zero_le _, Nat.zero_le _⟩ 0 0 rfl rfl dX11_appendCharacter_5 w (fun x1 h2 w => ?_)
  refine r_if_ne C dX11_appendCharacter_8 (tgt := 14) rfl (fun hc => ?_) (fun hc => ?_)
  · have w := w.1 hc
    refine r_aload_n C dX11_appendCharacter_14 rfl 0 rfl ?_
    refine r_getI C fcX11 (f := 4) (by decide) rfl k947 dX11_appendCharacter_15 (w.mono fun x3 w => ?_)
    refine r_sipush (v := 150) C dX11_appendCharacter_18 rfl ?_
    refine r_icmp_ne C dX11_appendCharacter_21 (tgt := 27) rfl (fun hc => ?_) (fun hc => ?_)
    · have w := w.1 hc
      refine r_aload_n C dX11_appendCharacter_27 rfl 0 rfl ?_
      refine r_getP C fcX11 (f := 3) (by decide) rfl k946 dX11_appendCharacter_28 (w.mono fun x4 w => ?_)
      refine r_aload_n C dX11_appendCharacter_31 rfl 0 rfl ?_
      refine r_getI C fcX11 (f := 4) (by decide) rfl k947 dX11_appendCharacter_32 (w.mono fun x5 w => ?_)
      refine r_iload_n C dX11_appendCharacter_35 rfl 1 rfl ?_
      refine r_i2b C dX11_appendCharacter_36 ?_
      refine r_bast C dX11_appendCharacter_37 (w.mono fun h6 w => ?_)
      refine r_aload_n C dX11_appendCharacter_38 rfl 0 rfl ?_
      refine r_dup C dX11_appendCharacter_39 rfl ?_
      refine r_getI C fcX11 (f := 4) (by decide) rfl k947 dX11_appendCharacter_40 (w.mono fun x7 w => ?_)
      refine r_iconst (v := 1) C dX11_appendCharacter_43 rfl ?_
      refine r_iadd C dX11_appendCharacter_44 ?_
      refine r_put C fcX11 (f := 4) (by decide) rfl rfl rfl rfl k947 dX11_appendCharacter_45 (w.mono fun h8 w => ?_)
      refine r_aload_n C dX11_appendCharacter_48 rfl 0 rfl ?_
      refine r_getI C fcX11 (f := 4) (by decide) rfl k947 dX11_appendCharacter_49 (w.mono fun x9 w => ?_)
      exact r_iret C D rfl (Nat.zero_le _) (Nat.zero_le _) dX11_appendCharacter_52 w
    · have w := w.2 hc
      refine r_ldc (v := -1000003) C dX11_appendCharacter_24 k1040 ?_
      exact r_iret C D rfl (Nat.zero_le _) (Nat.zero_le _) dX11_appendCharacter_26 w
  · have w := w.2 hc
    refine r_ldc (v := -1000001) C dX11_appendCharacter_11 k1039 ?_
    exact r_iret C D rfl (Nat.zero_le _) (Nat.zero_le _) dX11_appendCharacter_13 w
theorem eX11_appendCharacter {E : EV} {post : Option AV → AH → Prop} {h : AH} {l0 : Option Nat} {l1 : Int32} (w : PX11_appendCharacter_0 E post h l0 l1) : sX11_appendCharacter E [aP l0, aI l1] h post := Spec.of RX11 rfl rfl (Nat.le_of_ble_eq_true rfl) fun X C D => bX11_appendCharacter_0 C D w
theorem dX11_isSlot_0 : decode cX11_isSlot 0 = .ok (.iload_n 0, 1) := by decide +kernel
theorem dX11_isSlot_1 : decode cX11_isSlot 1 = .ok (.iconst 0, 1) := by decide +kernel
theorem dX11_isSlot_2 : decode cX11_isSlot 2 = .ok (.iconst 3, 1) := by decide +kernel
theorem dX11_isSlot_3 : decode cX11_isSlot 3 = .ok (.invokestatic 46, 3) := by decide +kernel
theorem dX11_isSlot_6 : decode cX11_isSlot 6 = .ok (.ireturn, 1) := by decide +kernel
abbrev rmX11_isSlot : Room := { frames := 1, cells := 0, slots := 0, locals := 40 }
abbrev sX11_isSlot (E : EV) : List AV → AH → (Option AV → AH → Prop) → Prop := Spec E yX11_isSlot cX11_isSlot 1 (some .boolean) rmX11_isSlot
theorem mX11_isSlot : Mt yX11_isSlot cX11_isSlot 1 (some .boolean) 1 := ⟨k1051, k12, by decide +kernel⟩
theorem vX11_isSlot : MtS yX11_isSlot := k1050
def PX11_isSlot_0 (E : EV) (post : Option AV → AH → Prop) (h : AH) (l0 : Int32) : Prop :=
  CS (sX11_in E) [aI l0, aI (0 : Int32), aI (3 : Int32)] h (kI fun x1 h2 => (x1 = 0 ∨ x1 = 1) ∧ post (some (aI x1)) h2)
theorem bX11_isSlot_0 {E : EV} {X : AX} {post : Option AV → AH → Prop} (C : Cb E X cX11_isSlot RX11 1 rmX11_isSlot) (D : Cr E X (some .boolean) rmX11_isSlot "isSlot" post) {h : AH} {l0 : Int32} (w : PX11_isSlot_0 E post h l0) : Go E X 1 0 0 0 [(0, aI l0)] [] h := by
  unfold PX11_isSlot_0 at w
  refine r_iload_n C dX11_isSlot_0 rfl 0 rfl ?_
  refine r_iconst (v := 0) C dX11_isSlot_1 rfl ?_
  refine r_iconst (v := 3) C dX11_isSlot_2 rfl ?_
  refine r_csI (rm' := rmX11_in) C mX11_in vX11_in k1036 [aI l0, aI (0 : Int32), aI (3 : Int32)] [] rfl rfl (Nat.le_of_ble_eq_true rfl) (by decide) ⟨Nat.zero_le _, Nat.zero_le _⟩ 0 0 rfl rfl dX11_isSlot_3 w (fun x1 h2 w => ?_)
  exact r_zret C D rfl w.1 (Nat.zero_le _) (Nat.zero_le _) dX11_isSlot_6 w.2
theorem eX11_isSlot {E : EV} {post : Option AV → AH → Prop} {h : AH} {l0 : Int32} (w : PX11_isSlot_0 E post h l0) : sX11_isSlot E [aI l0] h post := Spec.of RX11 rfl rfl (Nat.le_of_ble_eq_true rfl) fun X C D => bX11_isSlot_0 C D w
theorem dX11_areSlots_0 : decode cX11_areSlots 0 = .ok (.iload_n 1, 1) := by decide +kernel
theorem dX11_areSlots_1 : decode cX11_areSlots 1 = .ok (.invokestatic 182, 3) := by decide +kernel
theorem dX11_areSlots_4 : decode cX11_areSlots 4 = .ok (.ifCond .eq 14, 3) := by decide +kernel
theorem dX11_areSlots_7 : decode cX11_areSlots 7 = .ok (.iload_n 2, 1) := by decide +kernel
theorem dX11_areSlots_8 : decode cX11_areSlots 8 = .ok (.invokestatic 182, 3) := by decide +kernel
theorem dX11_areSlots_11 : decode cX11_areSlots 11 = .ok (.ifCond .eq 7, 3) := by decide +kernel
theorem dX11_areSlots_14 : decode cX11_areSlots 14 = .ok (.iconst 1, 1) := by decide +kernel
theorem dX11_areSlots_15 : decode cX11_areSlots 15 = .ok (.goto 4, 3) := by decide +kernel
theorem dX11_areSlots_18 : decode cX11_areSlots 18 = .ok (.iconst 0, 1) := by decide +kernel
theorem dX11_areSlots_19 : decode cX11_areSlots 19 = .ok (.ireturn, 1) := by decide +kernel
abbrev rmX11_areSlots : Room := { frames := 2, cells := 0, slots := 0, locals := 80 }
abbrev sX11_areSlots (E : EV) : List AV → AH → (Option AV → AH → Prop) → Prop := Spec E yX11_areSlots cX11_areSlots 3 (some .boolean) rmX11_areSlots
theorem mX11_areSlots : Mt yX11_areSlots cX11_areSlots 3 (some .boolean) 2 := ⟨k1213, k12, by decide +kernel⟩
theorem vX11_areSlots : MtV yX11_areSlots 11 := ⟨k1212, kp54, by decide, (RX11, TX11, 26), rfl, rfl⟩
def PX11_areSlots_0 (E : EV) (post : Option AV → AH → Prop) (h : AH) (l0 : Option Nat) (l1 : Int32) (l2 : Int32) : Prop :=
  CS (sX11_isSlot E) [aI l1] h (kI fun x1 h2 => (x1 = 0 → post (some (aI (0 : Int32))) h2) ∧ (¬ x1 = 0 → CS (sX11_isSlot E) [aI l2] h2 (kI fun x3 h4 => (x3 = 0 → post (some (aI (0 : Int32))) h4) ∧ (¬ x3 = 0 → post (some (aI (1 : Int32))) h4))))
theorem bX11_areSlots_0 {E : EV} {X : AX} {post : Option AV → AH → Prop} (C : Cb E X cX11_areSlots RX11 3 rmX11_areSlots) (D : Cr E X (some .boolean) rmX11_areSlots "areSlots" post) {h : AH} {l0 : Option Nat} {l1 : Int32} {l2 : Int32} (w : PX11_areSlots_0 E post h l0 l1 l2) : Go E X 3 0 0 0 [(0, aP l0), (1, aI l1), (2, aI l2)] [] h := by
  unfold PX11_areSlots_0 at w
  refine r_iload_n C dX11_areSlots_0 rfl 1 rfl ?_
  refine r_csI (rm' := rmX11_isSlot) C mX11_isSlot vX11_isSlot k1049 [aI l1] [] rfl rfl (Nat.le_of_ble_eq_true rfl) (by decide) ⟨Nat.zero_le _, Nat.zero_le _⟩ 0 0 rfl rfl dX11_areSlots_1 w (fun x1 h2 w => ?_)
  refine r_if_eq C dX11_areSlots_4 (tgt := 18) rfl (fun hc => ?_) (fun hc => ?_)
  · have w := w.1 hc
    refine r_iconst (v := 0) C dX11_areSlots_18 rfl ?_
    exact r_zret C D rfl (Or.inl rfl) (Nat.zero_le _) (Nat.zero_le _) dX11_areSlots_19 w
  · have w := w.2 hc
    refine r_iload_n C dX11_areSlots_7 rfl 2 rfl ?_
    refine r_csI (rm' := rmX11_isSlot) C mX11_isSlot vX11_isSlot k1049 [aI l2] [] rfl rfl (Nat.le_of_ble_eq_true rfl) (by decide) ⟨Nat.zero_le _, Nat.zero_le _⟩ 0 0 rfl rfl dX11_areSlots_8 w (fun x3 h4 w => ?_)
    refine r_if_eq C dX11_areSlots_11 (tgt := 18) rfl (fun hc => ?_) (fun hc => ?_)
    · have w := w.1 hc
      refine r_iconst (v := 0) C dX11_areSlots_18 rfl ?_
      exact r_zret C D rfl (Or.inl rfl) (Nat.zero_le _) (Nat.zero_le _) dX11_areSlots_19 w
    · have w := w.2 hc
      refine r_iconst (v := 1) C dX11_areSlots_14 rfl ?_
      refine r_goto C dX11_areSlots_15 (tgt := 19) rfl ?_
      exact r_zret C D rfl (Or.inr rfl) (Nat.zero_le _) (Nat.zero_le _) dX11_areSlots_19 w
theorem eX11_areSlots {E : EV} {post : Option AV → AH → Prop} {h : AH} {l0 : Option Nat} {l1 : Int32} {l2 : Int32} (w : PX11_areSlots_0 E post h l0 l1 l2) : sX11_areSlots E [aP l0, aI l1, aI l2] h post := Spec.of RX11 rfl rfl (Nat.le_of_ble_eq_true rfl) fun X C D => bX11_areSlots_0 C D w
theorem dX11_itemShape_0 : decode cX11_itemShape 0 = .ok (.sipush 164, 3) := by decide +kernel
theorem dX11_itemShape_3 : decode cX11_itemShape 3 = .ok (.bipush 42, 2) := by decide +kernel
theorem dX11_itemShape_5 : decode cX11_itemShape 5 = .ok (.iload_n 0, 1) := by decide +kernel
theorem dX11_itemShape_6 : decode cX11_itemShape 6 = .ok (.imul, 1) := by decide +kernel
theorem dX11_itemShape_7 : decode cX11_itemShape 7 = .ok (.iadd, 1) := by decide +kernel
theorem dX11_itemShape_8 : decode cX11_itemShape 8 = .ok (.ireturn, 1) := by decide +kernel
abbrev rmX11_itemShape : Room := { frames := 0, cells := 0, slots := 0, locals := 0 }
abbrev sX11_itemShape (E : EV) : List AV → AH → (Option AV → AH → Prop) → Prop := Spec E yX11_itemShape cX11_itemShape 1 (some .int) rmX11_itemShape
theorem mX11_itemShape : Mt yX11_itemShape cX11_itemShape 1 (some .int) 1 := ⟨k1283, k12, by decide +kernel⟩
theorem vX11_itemShape : MtS yX11_itemShape := k1282
def PX11_itemShape_0 (E : EV) (post : Option AV → AH → Prop) (h : AH) (l0 : Int32) : Prop :=
  post (some (aI ((164 : Int32) + ((42 : Int32) * l0)))) h
theorem bX11_itemShape_0 {E : EV} {X : AX} {post : Option AV → AH → Prop} (C : Cb E X cX11_itemShape RX11 1 rmX11_itemShape) (D : Cr E X (some .int) rmX11_itemShape "itemShape" post) {h : AH} {l0 : Int32} (w : PX11_itemShape_0 E post h l0) : Go E X 1 0 0 0 [(0, aI l0)] [] h := by
  unfold PX11_itemShape_0 at w
  refine r_sipush (v := 164) C dX11_itemShape_0 rfl ?_
  refine r_bipush (v := 42) C dX11_itemShape_3 rfl ?_
  refine r_iload_n C dX11_itemShape_5 rfl 0 rfl ?_
  refine r_imul C dX11_itemShape_6 ?_
  refine r_iadd C dX11_itemShape_7 ?_
  exact r_iret C D rfl (Nat.zero_le _) (Nat.zero_le _) dX11_itemShape_8 w
theorem eX11_itemShape {E : EV} {post : Option AV → AH → Prop} {h : AH} {l0 : Int32} (w : PX11_itemShape_0 E post h l0) : sX11_itemShape E [aI l0] h post := Spec.of RX11 rfl rfl (Nat.le_of_ble_eq_true rfl) fun X C D => bX11_itemShape_0 C D w
theorem dX11_pieces_0 : decode cX11_pieces 0 = .ok (.aload_n 0, 1) := by decide +kernel
theorem dX11_pieces_1 : decode cX11_pieces 1 = .ok (.getfield 7, 3) := by decide +kernel
theorem dX11_pieces_4 : decode cX11_pieces 4 = .ok (.iload_n 1, 1) := by decide +kernel
theorem dX11_pieces_5 : decode cX11_pieces 5 = .ok (.iaload, 1) := by decide +kernel
theorem dX11_pieces_6 : decode cX11_pieces 6 = .ok (.ireturn, 1) := by decide +kernel
abbrev rmX11_pieces : Room := { frames := 0, cells := 0, slots := 0, locals := 0 }
abbrev sX11_pieces (E : EV) : List AV → AH → (Option AV → AH → Prop) → Prop := Spec E yX11_pieces cX11_pieces 2 (some .int) rmX11_pieces
theorem mX11_pieces : Mt yX11_pieces cX11_pieces 2 (some .int) 1 := ⟨k1118, k12, by decide +kernel⟩
theorem vX11_pieces : MtV yX11_pieces 11 := ⟨k1117, kp43, by decide, (RX11, TX11, 26), rfl, rfl⟩
def PX11_pieces_0 (E : EV) (post : Option AV → AH → Prop) (h : AH) (l0 : Option Nat) (l1 : Int32) : Prop :=
  rdP h l0 11 0 fun x1 => aldI h x1 0 l1 fun x2 => post (some (aI x2)) h
theorem bX11_pieces_0 {E : EV} {X : AX} {post : Option AV → AH → Prop} (C : Cb E X cX11_pieces RX11 2 rmX11_pieces) (D : Cr E X (some .int) rmX11_pieces "pieces" post) {h : AH} {l0 : Option Nat} {l1 : Int32} (w : PX11_pieces_0 E post h l0 l1) : Go E X 2 0 0 0 [(0, aP l0), (1, aI l1)] [] h := by
  unfold PX11_pieces_0 at w
  refine r_aload_n C dX11_pieces_0 rfl 0 rfl ?_
  refine r_getP C fcX11 (f := 0) (by decide) rfl k943 dX11_pieces_1 (w.mono fun x1 w => ?_)
  refine r_iload_n C dX11_pieces_4 rfl 1 rfl ?_
  refine r_iald C dX11_pieces_5 (w.mono fun x2 w => ?_)
  exact r_iret C D rfl (Nat.zero_le _) (Nat.zero_le _) dX11_pieces_6 w
theorem eX11_pieces {E : EV} {post : Option AV → AH → Prop} {h : AH} {l0 : Option Nat} {l1 : Int32} (w : PX11_pieces_0 E post h l0 l1) : sX11_pieces E [aP l0, aI l1] h post := Spec.of RX11 rfl rfl (Nat.le_of_ble_eq_true rfl) fun X C D => bX11_pieces_0 C D w
theorem dX11_vertices_0 : decode cX11_vertices 0 = .ok (.aload_n 0, 1) := by decide +kernel
theorem dX11_vertices_1 : decode cX11_vertices 1 = .ok (.getfield 7, 3) := by decide +kernel
theorem dX11_vertices_4 : decode cX11_vertices 4 = .ok (.iload_n 1, 1) := by decide +kernel
theorem dX11_vertices_5 : decode cX11_vertices 5 = .ok (.iconst 1, 1) := by decide +kernel
theorem dX11_vertices_6 : decode cX11_vertices 6 = .ok (.iadd, 1) := by decide +kernel
theorem dX11_vertices_7 : decode cX11_vertices 7 = .ok (.iload_n 2, 1) := by decide +kernel
theorem dX11_vertices_8 : decode cX11_vertices 8 = .ok (.iadd, 1) := by decide +kernel
theorem dX11_vertices_9 : decode cX11_vertices 9 = .ok (.iaload, 1) := by decide +kernel
theorem dX11_vertices_10 : decode cX11_vertices 10 = .ok (.ireturn, 1) := by decide +kernel
abbrev rmX11_vertices : Room := { frames := 0, cells := 0, slots := 0, locals := 0 }
abbrev sX11_vertices (E : EV) : List AV → AH → (Option AV → AH → Prop) → Prop := Spec E yX11_vertices cX11_vertices 3 (some .int) rmX11_vertices
theorem mX11_vertices : Mt yX11_vertices cX11_vertices 3 (some .int) 2 := ⟨k1075, k12, by decide +kernel⟩
theorem vX11_vertices : MtV yX11_vertices 11 := ⟨k1074, kp34, by decide, (RX11, TX11, 26), rfl, rfl⟩
def PX11_vertices_0 (E : EV) (post : Option AV → AH → Prop) (h : AH) (l0 : Option Nat) (l1 : Int32) (l2 : Int32) : Prop :=
  rdP h l0 11 0 fun x1 => aldI h x1 0 ((l1 + (1 : Int32)) + l2) fun x2 => post (some (aI x2)) h
theorem bX11_vertices_0 {E : EV} {X : AX} {post : Option AV → AH → Prop} (C : Cb E X cX11_vertices RX11 3 rmX11_vertices) (D : Cr E X (some .int) rmX11_vertices "vertices" post) {h : AH} {l0 : Option Nat} {l1 : Int32} {l2 : Int32} (w : PX11_vertices_0 E post h l0 l1 l2) : Go E X 3 0 0 0 [(0, aP l0), (1, aI l1), (2, aI l2)] [] h := by
  unfold PX11_vertices_0 at w
  refine r_aload_n C dX11_vertices_0 rfl 0 rfl ?_
  refine r_getP C fcX11 (f := 0) (by decide) rfl k943 dX11_vertices_1 (w.mono fun x1 w => ?_)
  refine r_iload_n C dX11_vertices_4 rfl 1 rfl ?_
  refine r_iconst (v := 1) C dX11_vertices_5 rfl ?_
  refine r_iadd C dX11_vertices_6 ?_
  refine r_iload_n C dX11_vertices_7 rfl 2 rfl ?_
  refine r_iadd C dX11_vertices_8 ?_
  refine r_iald C dX11_vertices_9 (w.mono fun x2 w => ?_)
  exact r_iret C D rfl (Nat.zero_le _) (Nat.zero_le _) dX11_vertices_10 w
theorem eX11_vertices {E : EV} {post : Option AV → AH → Prop} {h : AH} {l0 : Option Nat} {l1 : Int32} {l2 : Int32} (w : PX11_vertices_0 E post h l0 l1 l2) : sX11_vertices E [aP l0, aI l1, aI l2] h post := Spec.of RX11 rfl rfl (Nat.le_of_ble_eq_true rfl) fun X C D => bX11_vertices_0 C D w
theorem dX11_xOf_0 : decode cX11_xOf 0 = .ok (.aload_n 0, 1) := by decide +kernel
theorem dX11_xOf_1 : decode cX11_xOf 1 = .ok (.getfield 7, 3) := by decide +kernel
theorem dX11_xOf_4 : decode cX11_xOf 4 = .ok (.iload_n 1, 1) := by decide +kernel
theorem dX11_xOf_5 : decode cX11_xOf 5 = .ok (.iconst 4, 1) := by decide +kernel
theorem dX11_xOf_6 : decode cX11_xOf 6 = .ok (.iadd, 1) := by decide +kernel
theorem dX11_xOf_7 : decode cX11_xOf 7 = .ok (.bipush 12, 2) := by decide +kernel
theorem dX11_xOf_9 : decode cX11_xOf 9 = .ok (.iload_n 2, 1) := by decide +kernel
theorem dX11_xOf_10 : decode cX11_xOf 10 = .ok (.imul, 1) := by decide +kernel
theorem dX11_xOf_11 : decode cX11_xOf 11 = .ok (.iadd, 1) := by decide +kernel
theorem dX11_xOf_12 : decode cX11_xOf 12 = .ok (.iconst 2, 1) := by decide +kernel
theorem dX11_xOf_13 : decode cX11_xOf 13 = .ok (.iload_n 3, 1) := by decide +kernel
theorem dX11_xOf_14 : decode cX11_xOf 14 = .ok (.aload_n 0, 1) := by decide +kernel
theorem dX11_xOf_15 : decode cX11_xOf 15 = .ok (.getfield 7, 3) := by decide +kernel
theorem dX11_xOf_18 : decode cX11_xOf 18 = .ok (.iload_n 1, 1) := by decide +kernel
theorem dX11_xOf_19 : decode cX11_xOf 19 = .ok (.iconst 1, 1) := by decide +kernel
theorem dX11_xOf_20 : decode cX11_xOf 20 = .ok (.iadd, 1) := by decide +kernel
theorem dX11_xOf_21 : decode cX11_xOf 21 = .ok (.iload_n 2, 1) := by decide +kernel
theorem dX11_xOf_22 : decode cX11_xOf 22 = .ok (.iadd, 1) := by decide +kernel
theorem dX11_xOf_23 : decode cX11_xOf 23 = .ok (.iaload, 1) := by decide +kernel
theorem dX11_xOf_24 : decode cX11_xOf 24 = .ok (.irem, 1) := by decide +kernel
theorem dX11_xOf_25 : decode cX11_xOf 25 = .ok (.imul, 1) := by decide +kernel
theorem dX11_xOf_26 : decode cX11_xOf 26 = .ok (.iadd, 1) := by decide +kernel
theorem dX11_xOf_27 : decode cX11_xOf 27 = .ok (.iaload, 1) := by decide +kernel
theorem dX11_xOf_28 : decode cX11_xOf 28 = .ok (.ireturn, 1) := by decide +kernel
abbrev rmX11_xOf : Room := { frames := 0, cells := 0, slots := 0, locals := 0 }
abbrev sX11_xOf (E : EV) : List AV → AH → (Option AV → AH → Prop) → Prop := Spec E yX11_xOf cX11_xOf 4 (some .int) rmX11_xOf
theorem mX11_xOf : Mt yX11_xOf cX11_xOf 4 (some .int) 3 := ⟨k1079, k12, by decide +kernel⟩
theorem vX11_xOf : MtV yX11_xOf 11 := ⟨k1078, kp35, by decide, (RX11, TX11, 26), rfl, rfl⟩
def PX11_xOf_0 (E : EV) (post : Option AV → AH → Prop) (h : AH) (l0 : Option Nat) (l1 : Int32) (l2 : Int32) (l3 : Int32) : Prop :=
  rdP h l0 11 0 fun x1 => rdP h l0 11 0 fun x2 => aldI h x2 0 ((l1 + (1 : Int32)) + l2) fun x3 => ¬ x3 = 0 ∧ (aldI h x1 0 (((l1 + (4 : Int32)) + ((12 : Int32) * l2)) + ((2 : Int32) * (l3 - l3 / x3 * x3))) fun x4 => post (some (aI x4)) h)
theorem bX11_xOf_0 {E : EV} {X : AX} {post : Option AV → AH → Prop} (C : Cb E X cX11_xOf RX11 4 rmX11_xOf) (D : Cr E X (some .int) rmX11_xOf "xOf" post) {h : AH} {l0 : Option Nat} {l1 : Int32} {l2 : Int32} {l3 : Int32} (w : PX11_xOf_0 E post h l0 l1 l2 l3) : Go E X 4 0 0 0 [(0, aP l0), (1, aI l1), (2, aI l2), (3, aI l3)] [] h := by
  unfold PX11_xOf_0 at w
  refine r_aload_n C dX11_xOf_0 rfl 0 rfl ?_
  refine r_getP C fcX11 (f := 0) (by decide) rfl k943 dX11_xOf_1 (w.mono fun x1 w => ?_)
  refine r_iload_n C dX11_xOf_4 rfl 1 rfl ?_
  refine r_iconst (v := 4) C dX11_xOf_5 rfl ?_
  refine r_iadd C dX11_xOf_6 ?_
  refine r_bipush (v := 12) C dX11_xOf_7 rfl ?_
  refine r_iload_n C dX11_xOf_9 rfl 2 rfl ?_
  refine r_imul C dX11_xOf_10 ?_
  refine r_iadd C dX11_xOf_11 ?_
  refine r_iconst (v := 2) C dX11_xOf_12 rfl ?_
  refine r_iload_n C dX11_xOf_13 rfl 3 rfl ?_
  refine r_aload_n C dX11_xOf_14 rfl 0 rfl ?_
  refine r_getP C fcX11 (f := 0) (by decide) rfl k943 dX11_xOf_15 (w.mono fun x2 w => ?_)
  refine r_iload_n C dX11_xOf_18 rfl 1 rfl ?_
  refine r_iconst (v := 1) C dX11_xOf_19 rfl ?_
  refine r_iadd C dX11_xOf_20 ?_
  refine r_iload_n C dX11_xOf_21 rfl 2 rfl ?_
  refine r_iadd C dX11_xOf_22 ?_
  refine r_iald C dX11_xOf_23 (w.mono fun x3 w => ?_)
  refine r_irem C dX11_xOf_24 w.1 ?_
  have w := w.2
  refine r_imul C dX11_xOf_25 ?_
  refine r_iadd C dX11_xOf_26 ?_
  refine r_iald C dX11_xOf_27 (w.mono fun x4 w => ?_)
  exact r_iret C D rfl (Nat.zero_le _) (Nat.zero_le _) dX11_xOf_28 w
theorem eX11_xOf {E : EV} {post : Option AV → AH → Prop} {h : AH} {l0 : Option Nat} {l1 : Int32} {l2 : Int32} {l3 : Int32} (w : PX11_xOf_0 E post h l0 l1 l2 l3) : sX11_xOf E [aP l0, aI l1, aI l2, aI l3] h post := Spec.of RX11 rfl rfl (Nat.le_of_ble_eq_true rfl) fun X C D => bX11_xOf_0 C D w
theorem dX11_yOf_0 : decode cX11_yOf 0 = .ok (.aload_n 0, 1) := by decide +kernel
theorem dX11_yOf_1 : decode cX11_yOf 1 = .ok (.getfield 7, 3) := by decide +kernel
theorem dX11_yOf_4 : decode cX11_yOf 4 = .ok (.iload_n 1, 1) := by decide +kernel
theorem dX11_yOf_5 : decode cX11_yOf 5 = .ok (.iconst 5, 1) := by decide +kernel
theorem dX11_yOf_6 : decode cX11_yOf 6 = .ok (.iadd, 1) := by decide +kernel
theorem dX11_yOf_7 : decode cX11_yOf 7 = .ok (.bipush 12, 2) := by decide +kernel
theorem dX11_yOf_9 : decode cX11_yOf 9 = .ok (.iload_n 2, 1) := by decide +kernel
theorem dX11_yOf_10 : decode cX11_yOf 10 = .ok (.imul, 1) := by decide +kernel
theorem dX11_yOf_11 : decode cX11_yOf 11 = .ok (.iadd, 1) := by decide +kernel
theorem dX11_yOf_12 : decode cX11_yOf 12 = .ok (.iconst 2, 1) := by decide +kernel
theorem dX11_yOf_13 : decode cX11_yOf 13 = .ok (.iload_n 3, 1) := by decide +kernel
theorem dX11_yOf_14 : decode cX11_yOf 14 = .ok (.aload_n 0, 1) := by decide +kernel
theorem dX11_yOf_15 : decode cX11_yOf 15 = .ok (.getfield 7, 3) := by decide +kernel
theorem dX11_yOf_18 : decode cX11_yOf 18 = .ok (.iload_n 1, 1) := by decide +kernel
theorem dX11_yOf_19 : decode cX11_yOf 19 = .ok (.iconst 1, 1) := by decide +kernel
theorem dX11_yOf_20 : decode cX11_yOf 20 = .ok (.iadd, 1) := by decide +kernel
theorem dX11_yOf_21 : decode cX11_yOf 21 = .ok (.iload_n 2, 1) := by decide +kernel
theorem dX11_yOf_22 : decode cX11_yOf 22 = .ok (.iadd, 1) := by decide +kernel
theorem dX11_yOf_23 : decode cX11_yOf 23 = .ok (.iaload, 1) := by decide +kernel
theorem dX11_yOf_24 : decode cX11_yOf 24 = .ok (.irem, 1) := by decide +kernel
theorem dX11_yOf_25 : decode cX11_yOf 25 = .ok (.imul, 1) := by decide +kernel
theorem dX11_yOf_26 : decode cX11_yOf 26 = .ok (.iadd, 1) := by decide +kernel
theorem dX11_yOf_27 : decode cX11_yOf 27 = .ok (.iaload, 1) := by decide +kernel
theorem dX11_yOf_28 : decode cX11_yOf 28 = .ok (.ireturn, 1) := by decide +kernel
abbrev rmX11_yOf : Room := { frames := 0, cells := 0, slots := 0, locals := 0 }
abbrev sX11_yOf (E : EV) : List AV → AH → (Option AV → AH → Prop) → Prop := Spec E yX11_yOf cX11_yOf 4 (some .int) rmX11_yOf
theorem mX11_yOf : Mt yX11_yOf cX11_yOf 4 (some .int) 3 := ⟨k1083, k12, by decide +kernel⟩
theorem vX11_yOf : MtV yX11_yOf 11 := ⟨k1082, kp36, by decide, (RX11, TX11, 26), rfl, rfl⟩
def PX11_yOf_0 (E : EV) (post : Option AV → AH → Prop) (h : AH) (l0 : Option Nat) (l1 : Int32) (l2 : Int32) (l3 : Int32) : Prop :=
  rdP h l0 11 0 fun x1 => rdP h l0 11 0 fun x2 => aldI h x2 0 ((l1 + (1 : Int32)) + l2) fun x3 => ¬ x3 = 0 ∧ (aldI h x1 0 (((l1 + (5 : Int32)) + ((12 : Int32) * l2)) + ((2 : Int32) * (l3 - l3 / x3 * x3))) fun x4 => post (some (aI x4)) h)
theorem bX11_yOf_0 {E : EV} {X : AX} {post : Option AV → AH → Prop} (C : Cb E X cX11_yOf RX11 4 rmX11_yOf) (D : Cr E X (some .int) rmX11_yOf "yOf" post) {h : AH} {l0 : Option Nat} {l1 : Int32} {l2 : Int32} {l3 : Int32} (w : PX11_yOf_0 E post h l0 l1 l2 l3) : Go E X 4 0 0 0 [(0, aP l0), (1, aI l1), (2, aI l2), (3, aI l3)] [] h := by
  unfold PX11_yOf_0 at w
  refine r_aload_n C dX11_yOf_0 rfl 0 rfl ?_
  refine r_getP C fcX11 (f := 0) (by decide) rfl k943 dX11_yOf_1 (w.mono fun x1 w => ?_)
  refine r_iload_n C dX11_yOf_4 rfl 1 rfl ?_
  refine r_iconst (v := 5) C dX11_yOf_5 rfl ?_
  refine r_iadd C dX11_yOf_6 ?_
  refine r_bipush (v := 12) C dX11_yOf_7 rfl ?_
  refine r_iload_n C dX11_yOf_9 rfl 2 rfl ?_
  refine r_imul C dX11_yOf_10 ?_
  refine r_iadd C dX11_yOf_11 ?_
  refine r_iconst (v := 2) C dX11_yOf_12 rfl ?_
  refine r_iload_n C dX11_yOf_13 rfl 3 rfl ?_
  refine r_aload_n C dX11_yOf_14 rfl 0 rfl ?_
  refine r_getP C fcX11 (f := 0) (by decide) rfl k943 dX11_yOf_15 (w.mono fun x2 w => ?_)
  refine r_iload_n C dX11_yOf_18 rfl 1 rfl ?_
  refine r_iconst (v := 1) C dX11_yOf_19 rfl ?_
  refine r_iadd C dX11_yOf_20 ?_
  refine r_iload_n C dX11_yOf_21 rfl 2 rfl ?_
  refine r_iadd C dX11_yOf_22 ?_
  refine r_iald C dX11_yOf_23 (w.mono fun x3 w => ?_)
  refine r_irem C dX11_yOf_24 w.1 ?_
  have w := w.2
  refine r_imul C dX11_yOf_25 ?_
  refine r_iadd C dX11_yOf_26 ?_
  refine r_iald C dX11_yOf_27 (w.mono fun x4 w => ?_)
  exact r_iret C D rfl (Nat.zero_le _) (Nat.zero_le _) dX11_yOf_28 w
theorem eX11_yOf {E : EV} {post : Option AV → AH → Prop} {h : AH} {l0 : Option Nat} {l1 : Int32} {l2 : Int32} {l3 : Int32} (w : PX11_yOf_0 E post h l0 l1 l2 l3) : sX11_yOf E [aP l0, aI l1, aI l2, aI l3] h post := Spec.of RX11 rfl rfl (Nat.le_of_ble_eq_true rfl) fun X C D => bX11_yOf_0 C D w
theorem dX11_high_0 : decode cX11_high 0 = .ok (.ldc 65, 2) := by decide +kernel
theorem dX11_high_2 : decode cX11_high 2 = .ok (.istore 5, 2) := by decide +kernel
theorem dX11_high_4 : decode cX11_high 4 = .ok (.iconst 0, 1) := by decide +kernel
theorem dX11_high_5 : decode cX11_high 5 = .ok (.istore 6, 2) := by decide +kernel
theorem dX11_high_7 : decode cX11_high 7 = .ok (.iload 6, 2) := by decide +kernel
theorem dX11_high_9 : decode cX11_high 9 = .ok (.aload_n 0, 1) := by decide +kernel
theorem dX11_high_10 : decode cX11_high 10 = .ok (.iload_n 1, 1) := by decide +kernel
theorem dX11_high_11 : decode cX11_high 11 = .ok (.iload_n 2, 1) := by decide +kernel
theorem dX11_high_12 : decode cX11_high 12 = .ok (.invokevirtual 54, 3) := by decide +kernel
theorem dX11_high_15 : decode cX11_high 15 = .ok (.if_icmp .ge 49, 3) := by decide +kernel
theorem dX11_high_18 : decode cX11_high 18 = .ok (.iload_n 3, 1) := by decide +kernel
theorem dX11_high_19 : decode cX11_high 19 = .ok (.aload_n 0, 1) := by decide +kernel
theorem dX11_high_20 : decode cX11_high 20 = .ok (.iload_n 1, 1) := by decide +kernel
theorem dX11_high_21 : decode cX11_high 21 = .ok (.iload_n 2, 1) := by decide +kernel
theorem dX11_high_22 : decode cX11_high 22 = .ok (.iload 6, 2) := by decide +kernel
theorem dX11_high_24 : decode cX11_high 24 = .ok (.invokevirtual 58, 3) := by decide +kernel
theorem dX11_high_27 : decode cX11_high 27 = .ok (.imul, 1) := by decide +kernel
theorem dX11_high_28 : decode cX11_high 28 = .ok (.iload 4, 2) := by decide +kernel
theorem dX11_high_30 : decode cX11_high 30 = .ok (.aload_n 0, 1) := by decide +kernel
theorem dX11_high_31 : decode cX11_high 31 = .ok (.iload_n 1, 1) := by decide +kernel
theorem dX11_high_32 : decode cX11_high 32 = .ok (.iload_n 2, 1) := by decide +kernel
theorem dX11_high_33 : decode cX11_high 33 = .ok (.iload 6, 2) := by decide +kernel
theorem dX11_high_35 : decode cX11_high 35 = .ok (.invokevirtual 62, 3) := by decide +kernel
theorem dX11_high_38 : decode cX11_high 38 = .ok (.imul, 1) := by decide +kernel
theorem dX11_high_39 : decode cX11_high 39 = .ok (.iadd, 1) := by decide +kernel
theorem dX11_high_40 : decode cX11_high 40 = .ok (.istore 7, 2) := by decide +kernel
theorem dX11_high_42 : decode cX11_high 42 = .ok (.iload 7, 2) := by decide +kernel
theorem dX11_high_44 : decode cX11_high 44 = .ok (.iload 5, 2) := by decide +kernel
theorem dX11_high_46 : decode cX11_high 46 = .ok (.if_icmp .le 8, 3) := by decide +kernel
theorem dX11_high_49 : decode cX11_high 49 = .ok (.iload 7, 2) := by decide +kernel
theorem dX11_high_51 : decode cX11_high 51 = .ok (.goto 5, 3) := by decide +kernel
theorem dX11_high_54 : decode cX11_high 54 = .ok (.iload 5, 2) := by decide +kernel
theorem dX11_high_56 : decode cX11_high 56 = .ok (.istore 5, 2) := by decide +kernel
theorem dX11_high_58 : decode cX11_high 58 = .ok (.iinc 6 1, 3) := by decide +kernel
theorem dX11_high_61 : decode cX11_high 61 = .ok (.goto (-54), 3) := by decide +kernel
theorem dX11_high_64 : decode cX11_high 64 = .ok (.iload 5, 2) := by decide +kernel
theorem dX11_high_66 : decode cX11_high 66 = .ok (.ireturn, 1) := by decide +kernel
abbrev rmX11_high : Room := { frames := 1, cells := 0, slots := 0, locals := 40 }
abbrev sX11_high (E : EV) : List AV → AH → (Option AV → AH → Prop) → Prop := Spec E yX11_high cX11_high 8 (some .int) rmX11_high
theorem mX11_high : Mt yX11_high cX11_high 8 (some .int) 4 := ⟨k1189, k12, by decide +kernel⟩
theorem vX11_high : MtV yX11_high 11 := ⟨k1188, kp52, by decide, (RX11, TX11, 26), rfl, rfl⟩
def PX11_high_7 (E : EV) (post : Option AV → AH → Prop) (J7 : AH → Option Nat → Int32 → Int32 → Int32 → Int32 → Int32 → Int32 → Prop) (h : AH) (l0 : Option Nat) (l1 : Int32) (l2 : Int32) (l3 : Int32) (l4 : Int32) (l5 : Int32) (l6 : Int32) : Prop :=
  CV (sX11_vertices E) l0 11 [aI l1, aI l2] h (kI fun x1 h2 => (x1 ≤ l6 → post (some (aI l5)) h2) ∧ (¬ x1 ≤ l6 → CV (sX11_xOf E) l0 11 [aI l1, aI l2, aI l6] h2 (kI fun x3 h4 => CV (sX11_yOf E) l0 11 [aI l1, aI l2, aI l6] h4 (kI fun x5 h6 => ∀ v7, v7 = ((l3 * x3) + (l4 * x5)) → (v7 ≤ l5 → J7 h6 l0 l1 l2 l3 l4 l5 (l6 + (1 : Int32))) ∧ (¬ v7 ≤ l5 → J7 h6 l0 l1 l2 l3 l4 v7 (l6 + (1 : Int32)))))))
theorem bX11_high_7 {E : EV} {X : AX} {post : Option AV → AH → Prop} (C : Cb E X cX11_high RX11 8 rmX11_high) (D : Cr E X (some .int) rmX11_high "high" post) {J7 : AH → Option Nat → Int32 → Int32 → Int32 → Int32 → Int32 → Int32 → Prop} (g7 : ∀ (h : AH) (l0 : Option Nat) (l1 : Int32) (l2 : Int32) (l3 : Int32) (l4 : Int32) (l5 : Int32) (l6 : Int32), J7 h l0 l1 l2 l3 l4 l5 l6 → Go E X 8 0 0 7 [(0, aP l0), (1, aI l1), (2, aI l2), (3, aI l3), (4, aI l4), (5, aI l5), (6, aI l6)] [] h) {h : AH} {l0 : Option Nat} {l1 : Int32} {l2 : Int32} {l3 : Int32} {l4 : Int32} {l5 : Int32} {l6 : Int32} (w : PX11_high_7 E post J7 h l0 l1 l2 l3 l4 l5 l6) : Go E X 8 0 0 7 [(0, aP l0), (1, aI l1), (2, aI l2), (3, aI l3), (4, aI l4), (5, aI l5), (6, aI l6)] [] h := by
  unfold PX11_high_7 at w
  refine r_iload C dX11_high_7 6 rfl ?_
  refine r_aload_n C dX11_high_9 rfl 0 rfl ?_
  refine r_iload_n C dX11_high_10 rfl 1 rfl ?_
  refine r_iload_n C dX11_high_11 rfl 2 rfl ?_
  refine r_cvI (rm' := rmX11_vertices) C mX11_vertices vX11_vertices k1072 [aI l1, aI l2] [aI l6] rfl rfl (Nat.le_of_ble_eq_true rfl) (by decide) ⟨Nat.zero_le _, Nat.zero_le _⟩ 0 0 rfl rfl dX11_high_12 w (fun x1 h2 w => ?_)
  refine r_icmp_ge C dX11_high_15 (tgt := 64) rfl (fun hc => ?_) (fun hc => ?_)
  · have w := w.1 hc
    refine r_iload C dX11_high_64 5 rfl ?_
    exact r_iret C D rfl (Nat.zero_le _) (Nat.zero_le _) dX11_high_66 w
  · have w := w.2 hc
    refine r_iload_n C dX11_high_18 rfl 3 rfl ?_
    refine r_aload_n C dX11_high_19 rfl 0 rfl ?_
    refine r_iload_n C dX11_high_20 rfl 1 rfl ?_
    refine r_iload_n C dX11_high_21 rfl 2 rfl ?_
    refine r_iload C dX11_high_22 6 rfl ?_
    refine r_cvI (rm' := rmX11_xOf) C mX11_xOf vX11_xOf k1076 [aI l1, aI l2, aI l6] [aI l3] rfl rfl (Nat.le_of_ble_eq_true rfl) (by decide) ⟨Nat.zero_le _, Nat.zero_le _⟩ 0 0 rfl rfl dX11_high_24 w (fun x3 h4 w => ?_)
    refine r_imul C dX11_high_27 ?_
    refine r_iload C dX11_high_28 4 rfl ?_
    refine r_aload_n C dX11_high_30 rfl 0 rfl ?_
    refine r_iload_n C dX11_high_31 rfl 1 rfl ?_
    refine r_iload_n C dX11_high_32 rfl 2 rfl ?_
    refine r_iload C dX11_high_33 6 rfl ?_
    refine r_cvI (rm' := rmX11_yOf) C mX11_yOf vX11_yOf k1080 [aI l1, aI l2, aI l6] [aI l4, aI (l3 * x3)] rfl rfl (Nat.le_of_ble_eq_true rfl) (by decide) ⟨Nat.zero_le _, Nat.zero_le _⟩ 0 0 rfl rfl dX11_high_35 w (fun x5 h6 w => ?_)
    refine r_imul C dX11_high_38 ?_
    refine r_iadd C dX11_high_39 ?_
    refine r_istore C dX11_high_40 (by decide) rfl ?_
    have w := w _ rfl
    skip
    refine r_iload C dX11_high_42 0 rfl ?_
    refine r_iload C dX11_high_44 6 rfl ?_
    refine r_icmp_le C dX11_high_46 (tgt := 54) rfl (fun hc => ?_) (fun hc => ?_)
    · have w := w.1 hc
      refine r_iload C dX11_high_54 6 rfl ?_
      refine r_istore C dX11_high_56 (by decide) rfl ?_
      refine r_iinc C dX11_high_58 7 rfl (v := 1) rfl (by decide) rfl ?_
      refine r_goto C dX11_high_61 (tgt := 7) rfl ?_
      exact r_sub [3, 4, 5, 6, 7, 1, 0] rfl (g7 h6 l0 l1 l2 l3 l4 l5 (l6 + (1 : Int32)) w)
    · have w := w.2 hc
      refine r_iload C dX11_high_49 0 rfl ?_
      refine r_goto C dX11_high_51 (tgt := 56) rfl ?_
      refine r_istore C dX11_high_56 (by decide) rfl ?_
      refine r_iinc C dX11_high_58 7 rfl (v := 1) rfl (by decide) rfl ?_
      refine r_goto C dX11_high_61 (tgt := 7) rfl ?_
      exact r_sub [3, 4, 5, 6, 7, 1, 0] rfl (g7 h6 l0 l1 l2 l3 l4 ((l3 * x3) + (l4 * x5)) (l6 + (1 : Int32)) w)
theorem lpX11_high_7 {E : EV} {X : AX} {post : Option AV → AH → Prop} (C : Cb E X cX11_high RX11 8 rmX11_high) (D : Cr E X (some .int) rmX11_high "high" post) (I : Nat → AH → Option Nat → Int32 → Int32 → Int32 → Int32 → Int32 → Int32 → Prop) (step : ∀ (z : Nat) (h : AH) (l0 : Option Nat) (l1 : Int32) (l2 : Int32) (l3 : Int32) (l4 : Int32) (l5 : Int32) (l6 : Int32), I z h l0 l1 l2 l3 l4 l5 l6 → PX11_high_7 E post (fun h l0 l1 l2 l3 l4 l5 l6 => ∃ z', z' < z ∧ I z' h l0 l1 l2 l3 l4 l5 l6) h l0 l1 l2 l3 l4 l5 l6) : ∀ (z : Nat) (h : AH) (l0 : Option Nat) (l1 : Int32) (l2 : Int32) (l3 : Int32) (l4 : Int32) (l5 : Int32) (l6 : Int32), I z h l0 l1 l2 l3 l4 l5 l6 → Go E X 8 0 0 7 [(0, aP l0), (1, aI l1), (2, aI l2), (3, aI l3), (4, aI l4), (5, aI l5), (6, aI l6)] [] h := by
  intro z
  induction z using Nat.strongRecOn with
  | _ z ih =>
    intro h l0 l1 l2 l3 l4 l5 l6 hI
    exact bX11_high_7 C D (fun h l0 l1 l2 l3 l4 l5 l6 hJ => by obtain ⟨z', hz, hi⟩ := hJ; exact ih z' hz h l0 l1 l2 l3 l4 l5 l6 hi) (step z h l0 l1 l2 l3 l4 l5 l6 hI)
def PX11_high_0 (E : EV) (post : Option AV → AH → Prop) (J7 : AH → Option Nat → Int32 → Int32 → Int32 → Int32 → Int32 → Int32 → Prop) (h : AH) (l0 : Option Nat) (l1 : Int32) (l2 : Int32) (l3 : Int32) (l4 : Int32) : Prop :=
  J7 h l0 l1 l2 l3 l4 (-100000 : Int32) (0 : Int32)
theorem bX11_high_0 {E : EV} {X : AX} {post : Option AV → AH → Prop} (C : Cb E X cX11_high RX11 8 rmX11_high) (D : Cr E X (some .int) rmX11_high "high" post) {J7 : AH → Option Nat → Int32 → Int32 → Int32 → Int32 → Int32 → Int32 → Prop} (g7 : ∀ (h : AH) (l0 : Option Nat) (l1 : Int32) (l2 : Int32) (l3 : Int32) (l4 : Int32) (l5 : Int32) (l6 : Int32), J7 h l0 l1 l2 l3 l4 l5 l6 → Go E X 8 0 0 7 [(0, aP l0), (1, aI l1), (2, aI l2), (3, aI l3), (4, aI l4), (5, aI l5), (6, aI l6)] [] h) {h : AH} {l0 : Option Nat} {l1 : Int32} {l2 : Int32} {l3 : Int32} {l4 : Int32} (w : PX11_high_0 E post J7 h l0 l1 l2 l3 l4) : Go E X 8 0 0 0 [(0, aP l0), (1, aI l1), (2, aI l2), (3, aI l3), (4, aI l4)] [] h := by
  unfold PX11_high_0 at w
  refine r_ldc (v := -100000) C dX11_high_0 k1185 ?_
  refine r_istore C dX11_high_2 (by decide) rfl ?_
  refine r_iconst (v := 0) C dX11_high_4 rfl ?_
  refine r_istore C dX11_high_5 (by decide) rfl ?_
  exact r_sub [2, 3, 4, 5, 6, 1, 0] rfl (g7 h l0 l1 l2 l3 l4 (-100000 : Int32) (0 : Int32) w)
theorem eX11_high {E : EV} {post : Option AV → AH → Prop} {h : AH} {l0 : Option Nat} {l1 : Int32} {l2 : Int32} {l3 : Int32} {l4 : Int32} {J7 : AH → Option Nat → Int32 → Int32 → Int32 → Int32 → Int32 → Int32 → Prop} (g7 : ∀ X : AX, Cb E X cX11_high RX11 8 rmX11_high → Cr E X (some .int) rmX11_high "high" post → ∀ (h : AH) (l0 : Option Nat) (l1 : Int32) (l2 : Int32) (l3 : Int32) (l4 : Int32) (l5 : Int32) (l6 : Int32), J7 h l0 l1 l2 l3 l4 l5 l6 → Go E X 8 0 0 7 [(0, aP l0), (1, aI l1), (2, aI l2), (3, aI l3), (4, aI l4), (5, aI l5), (6, aI l6)] [] h) (w : PX11_high_0 E post J7 h l0 l1 l2 l3 l4) : sX11_high E [aP l0, aI l1, aI l2, aI l3, aI l4] h post := Spec.of RX11 rfl rfl (Nat.le_of_ble_eq_true rfl) fun X C D => bX11_high_0 C D (g7 X C D) w
theorem dX11_highest_0 : decode cX11_highest 0 = .ok (.ldc 65, 2) := by decide +kernel
theorem dX11_highest_2 : decode cX11_highest 2 = .ok (.istore 4, 2) := by decide +kernel
theorem dX11_highest_4 : decode cX11_highest 4 = .ok (.iconst 0, 1) := by decide +kernel
theorem dX11_highest_5 : decode cX11_highest 5 = .ok (.istore 5, 2) := by decide +kernel
theorem dX11_highest_7 : decode cX11_highest 7 = .ok (.iload 5, 2) := by decide +kernel
theorem dX11_highest_9 : decode cX11_highest 9 = .ok (.aload_n 0, 1) := by decide +kernel
theorem dX11_highest_10 : decode cX11_highest 10 = .ok (.iload_n 1, 1) := by decide +kernel
theorem dX11_highest_11 : decode cX11_highest 11 = .ok (.invokevirtual 66, 3) := by decide +kernel
theorem dX11_highest_14 : decode cX11_highest 14 = .ok (.if_icmp .ge 36, 3) := by decide +kernel
theorem dX11_highest_17 : decode cX11_highest 17 = .ok (.aload_n 0, 1) := by decide +kernel
theorem dX11_highest_18 : decode cX11_highest 18 = .ok (.iload_n 1, 1) := by decide +kernel
theorem dX11_highest_19 : decode cX11_highest 19 = .ok (.iload 5, 2) := by decide +kernel
theorem dX11_highest_21 : decode cX11_highest 21 = .ok (.iload_n 2, 1) := by decide +kernel
theorem dX11_highest_22 : decode cX11_highest 22 = .ok (.iload_n 3, 1) := by decide +kernel
theorem dX11_highest_23 : decode cX11_highest 23 = .ok (.invokevirtual 69, 3) := by decide +kernel
theorem dX11_highest_26 : decode cX11_highest 26 = .ok (.istore 6, 2) := by decide +kernel
theorem dX11_highest_28 : decode cX11_highest 28 = .ok (.iload 6, 2) := by decide +kernel
theorem dX11_highest_30 : decode cX11_highest 30 = .ok (.iload 4, 2) := by decide +kernel
theorem dX11_highest_32 : decode cX11_highest 32 = .ok (.if_icmp .le 8, 3) := by decide +kernel
theorem dX11_highest_35 : decode cX11_highest 35 = .ok (.iload 6, 2) := by decide +kernel
theorem dX11_highest_37 : decode cX11_highest 37 = .ok (.goto 5, 3) := by decide +kernel
theorem dX11_highest_40 : decode cX11_highest 40 = .ok (.iload 4, 2) := by decide +kernel
theorem dX11_highest_42 : decode cX11_highest 42 = .ok (.istore 4, 2) := by decide +kernel
theorem dX11_highest_44 : decode cX11_highest 44 = .ok (.iinc 5 1, 3) := by decide +kernel
theorem dX11_highest_47 : decode cX11_highest 47 = .ok (.goto (-40), 3) := by decide +kernel
theorem dX11_highest_50 : decode cX11_highest 50 = .ok (.iload 4, 2) := by decide +kernel
theorem dX11_highest_52 : decode cX11_highest 52 = .ok (.ireturn, 1) := by decide +kernel
abbrev rmX11_highest : Room := { frames := 2, cells := 0, slots := 0, locals := 80 }
abbrev sX11_highest (E : EV) : List AV → AH → (Option AV → AH → Prop) → Prop := Spec E yX11_highest cX11_highest 7 (some .int) rmX11_highest
theorem mX11_highest : Mt yX11_highest cX11_highest 7 (some .int) 3 := ⟨k1184, k12, by decide +kernel⟩
theorem vX11_highest : MtV yX11_highest 11 := ⟨k1183, kp51, by decide, (RX11, TX11, 26), rfl, rfl⟩
def PX11_highest_7 (E : EV) (post : Option AV → AH → Prop) (J7 : AH → Option Nat → Int32 → Int32 → Int32 → Int32 → Int32 → Prop) (h : AH) (l0 : Option Nat) (l1 : Int32) (l2 : Int32) (l3 : Int32) (l4 : Int32) (l5 : Int32) : Prop :=
  CV (sX11_pieces E) l0 11 [aI l1] h (kI fun x1 h2 => (x1 ≤ l5 → post (some (aI l4)) h2) ∧ (¬ x1 ≤ l5 → CV (sX11_high E) l0 11 [aI l1, aI l5, aI l2, aI l3] h2 (kI fun x3 h4 => (x3 ≤ l4 → J7 h4 l0 l1 l2 l3 l4 (l5 + (1 : Int32))) ∧ (¬ x3 ≤ l4 → J7 h4 l0 l1 l2 l3 x3 (l5 + (1 : Int32))))))
theorem bX11_highest_7 {E : EV} {X : AX} {post : Option AV → AH → Prop} (C : Cb E X cX11_highest RX11 7 rmX11_highest) (D : Cr E X (some .int) rmX11_highest "highest" post) {J7 : AH → Option Nat → Int32 → Int32 → Int32 → Int32 → Int32 → Prop} (g7 : ∀ (h : AH) (l0 : Option Nat) (l1 : Int32) (l2 : Int32) (l3 : Int32) (l4 : Int32) (l5 : Int32), J7 h l0 l1 l2 l3 l4 l5 → Go E X 7 0 0 7 [(0, aP l0), (1, aI l1), (2, aI l2), (3, aI l3), (4, aI l4), (5, aI l5)] [] h) {h : AH} {l0 : Option Nat} {l1 : Int32} {l2 : Int32} {l3 : Int32} {l4 : Int32} {l5 : Int32} (w : PX11_highest_7 E post J7 h l0 l1 l2 l3 l4 l5) : Go E X 7 0 0 7 [(0, aP l0), (1, aI l1), (2, aI l2), (3, aI l3), (4, aI l4), (5, aI l5)] [] h := by
  unfold PX11_highest_7 at w
  refine r_iload C dX11_highest_7 5 rfl ?_
  refine r_aload_n C dX11_highest_9 rfl 0 rfl ?_
  refine r_iload_n C dX11_highest_10 rfl 1 rfl ?_
  refine r_cvI (rm' := rmX11_pieces) C mX11_pieces vX11_pieces k1115 [aI l1] [aI l5] rfl rfl (Nat.le_of_ble_eq_true rfl) (by decide) ⟨Nat.zero_le _, Nat.zero_le _⟩ 0 0 rfl rfl dX11_highest_11 w (fun x1 h2 w => ?_)
  refine r_icmp_ge C dX11_highest_14 (tgt := 50) rfl (fun hc => ?_) (fun hc => ?_)
  · have w := w.1 hc
    refine r_iload C dX11_highest_50 4 rfl ?_
    exact r_iret C D rfl (Nat.zero_le _) (Nat.zero_le _) dX11_highest_52 w
  · have w := w.2 hc
    refine r_aload_n C dX11_highest_17 rfl 0 rfl ?_
    refine r_iload_n C dX11_highest_18 rfl 1 rfl ?_
    refine r_iload C dX11_highest_19 5 rfl ?_
    refine r_iload_n C dX11_highest_21 rfl 2 rfl ?_
    refine r_iload_n C dX11_highest_22 rfl 3 rfl ?_
    refine r_cvI (rm' := rmX11_high) C mX11_high vX11_high k1186 [aI l1, aI l5, aI l2, aI l3] [] rfl rfl (Nat.le_of_ble_eq_true rfl) (by decide) ⟨Nat.zero_le _, Nat.zero_le _⟩ 0 0 rfl rfl dX11_highest_23 w (fun x3 h4 w => ?_)
    refine r_istore C dX11_highest_26 (by decide) rfl ?_
    refine r_iload C dX11_highest_28 0 rfl ?_
    refine r_iload C dX11_highest_30 5 rfl ?_
    refine r_icmp_le C dX11_highest_32 (tgt := 40) rfl (fun hc => ?_) (fun hc => ?_)
    · have w := w.1 hc
      refine r_iload C dX11_highest_40 5 rfl ?_
      refine r_istore C dX11_highest_42 (by decide) rfl ?_
      refine r_iinc C dX11_highest_44 6 rfl (v := 1) rfl (by decide) rfl ?_
      refine r_goto C dX11_highest_47 (tgt := 7) rfl ?_
      exact r_sub [3, 4, 5, 6, 1, 0] rfl (g7 h4 l0 l1 l2 l3 l4 (l5 + (1 : Int32)) w)
    · have w := w.2 hc
      refine r_iload C dX11_highest_35 0 rfl ?_
      refine r_goto C dX11_highest_37 (tgt := 42) rfl ?_
      refine r_istore C dX11_highest_42 (by decide) rfl ?_
      refine r_iinc C dX11_highest_44 6 rfl (v := 1) rfl (by decide) rfl ?_
      refine r_goto C dX11_highest_47 (tgt := 7) rfl ?_
      exact r_sub [3, 4, 5, 6, 1, 0] rfl (g7 h4 l0 l1 l2 l3 x3 (l5 + (1 : Int32)) w)
theorem lpX11_highest_7 {E : EV} {X : AX} {post : Option AV → AH → Prop} (C : Cb E X cX11_highest RX11 7 rmX11_highest) (D : Cr E X (some .int) rmX11_highest "highest" post) (I : Nat → AH → Option Nat → Int32 → Int32 → Int32 → Int32 → Int32 → Prop) (step : ∀ (z : Nat) (h : AH) (l0 : Option Nat) (l1 : Int32) (l2 : Int32) (l3 : Int32) (l4 : Int32) (l5 : Int32), I z h l0 l1 l2 l3 l4 l5 → PX11_highest_7 E post (fun h l0 l1 l2 l3 l4 l5 => ∃ z', z' < z ∧ I z' h l0 l1 l2 l3 l4 l5) h l0 l1 l2 l3 l4 l5) : ∀ (z : Nat) (h : AH) (l0 : Option Nat) (l1 : Int32) (l2 : Int32) (l3 : Int32) (l4 : Int32) (l5 : Int32), I z h l0 l1 l2 l3 l4 l5 → Go E X 7 0 0 7 [(0, aP l0), (1, aI l1), (2, aI l2), (3, aI l3), (4, aI l4), (5, aI l5)] [] h := by
  intro z
  induction z using Nat.strongRecOn with
  | _ z ih =>
    intro h l0 l1 l2 l3 l4 l5 hI
    exact bX11_highest_7 C D (fun h l0 l1 l2 l3 l4 l5 hJ => by obtain ⟨z', hz, hi⟩ := hJ; exact ih z' hz h l0 l1 l2 l3 l4 l5 hi) (step z h l0 l1 l2 l3 l4 l5 hI)
def PX11_highest_0 (E : EV) (post : Option AV → AH → Prop) (J7 : AH → Option Nat → Int32 → Int32 → Int32 → Int32 → Int32 → Prop) (h : AH) (l0 : Option Nat) (l1 : Int32) (l2 : Int32) (l3 : Int32) : Prop :=
  J7 h l0 l1 l2 l3 (-100000 : Int32) (0 : Int32)
theorem bX11_highest_0 {E : EV} {X : AX} {post : Option AV → AH → Prop} (C : Cb E X cX11_highest RX11 7 rmX11_highest) (D : Cr E X (some .int) rmX11_highest "highest" post) {J7 : AH → Option Nat → Int32 → Int32 → Int32 → Int32 → Int32 → Prop} (g7 : ∀ (h : AH) (l0 : Option Nat) (l1 : Int32) (l2 : Int32) (l3 : Int32) (l4 : Int32) (l5 : Int32), J7 h l0 l1 l2 l3 l4 l5 → Go E X 7 0 0 7 [(0, aP l0), (1, aI l1), (2, aI l2), (3, aI l3), (4, aI l4), (5, aI l5)] [] h) {h : AH} {l0 : Option Nat} {l1 : Int32} {l2 : Int32} {l3 : Int32} (w : PX11_highest_0 E post J7 h l0 l1 l2 l3) : Go E X 7 0 0 0 [(0, aP l0), (1, aI l1), (2, aI l2), (3, aI l3)] [] h := by
  unfold PX11_highest_0 at w
  refine r_ldc (v := -100000) C dX11_highest_0 k1185 ?_
  refine r_istore C dX11_highest_2 (by decide) rfl ?_
  refine r_iconst (v := 0) C dX11_highest_4 rfl ?_
  refine r_istore C dX11_highest_5 (by decide) rfl ?_
  exact r_sub [2, 3, 4, 5, 1, 0] rfl (g7 h l0 l1 l2 l3 (-100000 : Int32) (0 : Int32) w)
theorem eX11_highest {E : EV} {post : Option AV → AH → Prop} {h : AH} {l0 : Option Nat} {l1 : Int32} {l2 : Int32} {l3 : Int32} {J7 : AH → Option Nat → Int32 → Int32 → Int32 → Int32 → Int32 → Prop} (g7 : ∀ X : AX, Cb E X cX11_highest RX11 7 rmX11_highest → Cr E X (some .int) rmX11_highest "highest" post → ∀ (h : AH) (l0 : Option Nat) (l1 : Int32) (l2 : Int32) (l3 : Int32) (l4 : Int32) (l5 : Int32), J7 h l0 l1 l2 l3 l4 l5 → Go E X 7 0 0 7 [(0, aP l0), (1, aI l1), (2, aI l2), (3, aI l3), (4, aI l4), (5, aI l5)] [] h) (w : PX11_highest_0 E post J7 h l0 l1 l2 l3) : sX11_highest E [aP l0, aI l1, aI l2, aI l3] h post := Spec.of RX11 rfl rfl (Nat.le_of_ble_eq_true rfl) fun X C D => bX11_highest_0 C D (g7 X C D) w
theorem dX11_itemX_0 : decode cX11_itemX 0 = .ok (.aload_n 0, 1) := by decide +kernel
theorem dX11_itemX_1 : decode cX11_itemX 1 = .ok (.getfield 7, 3) := by decide +kernel
theorem dX11_itemX_4 : decode cX11_itemX 4 = .ok (.sipush 164, 3) := by decide +kernel
theorem dX11_itemX_7 : decode cX11_itemX 7 = .ok (.bipush 42, 2) := by decide +kernel
theorem dX11_itemX_9 : decode cX11_itemX 9 = .ok (.iload_n 1, 1) := by decide +kernel
theorem dX11_itemX_10 : decode cX11_itemX 10 = .ok (.imul, 1) := by decide +kernel
theorem dX11_itemX_11 : decode cX11_itemX 11 = .ok (.iadd, 1) := by decide +kernel
theorem dX11_itemX_12 : decode cX11_itemX 12 = .ok (.bipush 40, 2) := by decide +kernel
theorem dX11_itemX_14 : decode cX11_itemX 14 = .ok (.iadd, 1) := by decide +kernel
theorem dX11_itemX_15 : decode cX11_itemX 15 = .ok (.iaload, 1) := by decide +kernel
theorem dX11_itemX_16 : decode cX11_itemX 16 = .ok (.ireturn, 1) := by decide +kernel
abbrev rmX11_itemX : Room := { frames := 0, cells := 0, slots := 0, locals := 0 }
abbrev sX11_itemX (E : EV) : List AV → AH → (Option AV → AH → Prop) → Prop := Spec E yX11_itemX cX11_itemX 2 (some .int) rmX11_itemX
theorem mX11_itemX : Mt yX11_itemX cX11_itemX 2 (some .int) 1 := ⟨k1287, k12, by decide +kernel⟩
theorem vX11_itemX : MtV yX11_itemX 11 := ⟨k1286, kp66, by decide, (RX11, TX11, 26), rfl, rfl⟩
def PX11_itemX_0 (E : EV) (post : Option AV → AH → Prop) (h : AH) (l0 : Option Nat) (l1 : Int32) : Prop :=
  rdP h l0 11 0 fun x1 => aldI h x1 0 (((164 : Int32) + ((42 : Int32) * l1)) + (40 : Int32)) fun x2 => post (some (aI x2)) h
theorem bX11_itemX_0 {E : EV} {X : AX} {post : Option AV → AH → Prop} (C : Cb E X cX11_itemX RX11 2 rmX11_itemX) (D : Cr E X (some .int) rmX11_itemX "itemX" post) {h : AH} {l0 : Option Nat} {l1 : Int32} (w : PX11_itemX_0 E post h l0 l1) : Go E X 2 0 0 0 [(0, aP l0), (1, aI l1)] [] h := by
  unfold PX11_itemX_0 at w
  refine r_aload_n C dX11_itemX_0 rfl 0 rfl ?_
  refine r_getP C fcX11 (f := 0) (by decide) rfl k943 dX11_itemX_1 (w.mono fun x1 w => ?_)
  refine r_sipush (v := 164) C dX11_itemX_4 rfl ?_
  refine r_bipush (v := 42) C dX11_itemX_7 rfl ?_
  refine r_iload_n C dX11_itemX_9 rfl 1 rfl ?_
  refine r_imul C dX11_itemX_10 ?_
  refine r_iadd C dX11_itemX_11 ?_
  refine r_bipush (v := 40) C dX11_itemX_12 rfl ?_
  refine r_iadd C dX11_itemX_14 ?_
  refine r_iald C dX11_itemX_15 (w.mono fun x2 w => ?_)
  exact r_iret C D rfl (Nat.zero_le _) (Nat.zero_le _) dX11_itemX_16 w
theorem eX11_itemX {E : EV} {post : Option AV → AH → Prop} {h : AH} {l0 : Option Nat} {l1 : Int32} (w : PX11_itemX_0 E post h l0 l1) : sX11_itemX E [aP l0, aI l1] h post := Spec.of RX11 rfl rfl (Nat.le_of_ble_eq_true rfl) fun X C D => bX11_itemX_0 C D w
theorem dX11_itemY_0 : decode cX11_itemY 0 = .ok (.aload_n 0, 1) := by decide +kernel
theorem dX11_itemY_1 : decode cX11_itemY 1 = .ok (.getfield 7, 3) := by decide +kernel
theorem dX11_itemY_4 : decode cX11_itemY 4 = .ok (.sipush 164, 3) := by decide +kernel
theorem dX11_itemY_7 : decode cX11_itemY 7 = .ok (.bipush 42, 2) := by decide +kernel
theorem dX11_itemY_9 : decode cX11_itemY 9 = .ok (.iload_n 1, 1) := by decide +kernel
theorem dX11_itemY_10 : decode cX11_itemY 10 = .ok (.imul, 1) := by decide +kernel
theorem dX11_itemY_11 : decode cX11_itemY 11 = .ok (.iadd, 1) := by decide +kernel
theorem dX11_itemY_12 : decode cX11_itemY 12 = .ok (.bipush 40, 2) := by decide +kernel
theorem dX11_itemY_14 : decode cX11_itemY 14 = .ok (.iadd, 1) := by decide +kernel
theorem dX11_itemY_15 : decode cX11_itemY 15 = .ok (.iconst 1, 1) := by decide +kernel
theorem dX11_itemY_16 : decode cX11_itemY 16 = .ok (.iadd, 1) := by decide +kernel
theorem dX11_itemY_17 : decode cX11_itemY 17 = .ok (.iaload, 1) := by decide +kernel
theorem dX11_itemY_18 : decode cX11_itemY 18 = .ok (.ireturn, 1) := by decide +kernel
abbrev rmX11_itemY : Room := { frames := 0, cells := 0, slots := 0, locals := 0 }
abbrev sX11_itemY (E : EV) : List AV → AH → (Option AV → AH → Prop) → Prop := Spec E yX11_itemY cX11_itemY 2 (some .int) rmX11_itemY
theorem mX11_itemY : Mt yX11_itemY cX11_itemY 2 (some .int) 1 := ⟨k1291, k12, by decide +kernel⟩
theorem vX11_itemY : MtV yX11_itemY 11 := ⟨k1290, kp67, by decide, (RX11, TX11, 26), rfl, rfl⟩
def PX11_itemY_0 (E : EV) (post : Option AV → AH → Prop) (h : AH) (l0 : Option Nat) (l1 : Int32) : Prop :=
  rdP h l0 11 0 fun x1 => aldI h x1 0 ((((164 : Int32) + ((42 : Int32) * l1)) + (40 : Int32)) + (1 : Int32)) fun x2 => post (some (aI x2)) h
theorem bX11_itemY_0 {E : EV} {X : AX} {post : Option AV → AH → Prop} (C : Cb E X cX11_itemY RX11 2 rmX11_itemY) (D : Cr E X (some .int) rmX11_itemY "itemY" post) {h : AH} {l0 : Option Nat} {l1 : Int32} (w : PX11_itemY_0 E post h l0 l1) : Go E X 2 0 0 0 [(0, aP l0), (1, aI l1)] [] h := by
  unfold PX11_itemY_0 at w
  refine r_aload_n C dX11_itemY_0 rfl 0 rfl ?_
  refine r_getP C fcX11 (f := 0) (by decide) rfl k943 dX11_itemY_1 (w.mono fun x1 w => ?_)
  refine r_sipush (v := 164) C dX11_itemY_4 rfl ?_
  refine r_bipush (v := 42) C dX11_itemY_7 rfl ?_
  refine r_iload_n C dX11_itemY_9 rfl 1 rfl ?_
  refine r_imul C dX11_itemY_10 ?_
  refine r_iadd C dX11_itemY_11 ?_
  refine r_bipush (v := 40) C dX11_itemY_12 rfl ?_
  refine r_iadd C dX11_itemY_14 ?_
  refine r_iconst (v := 1) C dX11_itemY_15 rfl ?_
  refine r_iadd C dX11_itemY_16 ?_
  refine r_iald C dX11_itemY_17 (w.mono fun x2 w => ?_)
  exact r_iret C D rfl (Nat.zero_le _) (Nat.zero_le _) dX11_itemY_18 w
theorem eX11_itemY {E : EV} {post : Option AV → AH → Prop} {h : AH} {l0 : Option Nat} {l1 : Int32} (w : PX11_itemY_0 E post h l0 l1) : sX11_itemY E [aP l0, aI l1] h post := Spec.of RX11 rfl rfl (Nat.le_of_ble_eq_true rfl) fun X C D => bX11_itemY_0 C D w
theorem dX11_boundingBox_0 : decode cX11_boundingBox 0 = .ok (.iload_n 1, 1) := by decide +kernel
theorem dX11_boundingBox_1 : decode cX11_boundingBox 1 = .ok (.iconst 0, 1) := by decide +kernel
theorem dX11_boundingBox_2 : decode cX11_boundingBox 2 = .ok (.iconst 3, 1) := by decide +kernel
theorem dX11_boundingBox_3 : decode cX11_boundingBox 3 = .ok (.invokestatic 46, 3) := by decide +kernel
theorem dX11_boundingBox_6 : decode cX11_boundingBox 6 = .ok (.ifCond .ne 6, 3) := by decide +kernel
theorem dX11_boundingBox_9 : decode cX11_boundingBox 9 = .ok (.ldc 145, 2) := by decide +kernel
theorem dX11_boundingBox_11 : decode cX11_boundingBox 11 = .ok (.ireturn, 1) := by decide +kernel
theorem dX11_boundingBox_12 : decode cX11_boundingBox 12 = .ok (.iload_n 1, 1) := by decide +kernel
theorem dX11_boundingBox_13 : decode cX11_boundingBox 13 = .ok (.iconst 2, 1) := by decide +kernel
theorem dX11_boundingBox_14 : decode cX11_boundingBox 14 = .ok (.if_icmp .ge 7, 3) := by decide +kernel
theorem dX11_boundingBox_17 : decode cX11_boundingBox 17 = .ok (.iconst (-1), 1) := by decide +kernel
theorem dX11_boundingBox_18 : decode cX11_boundingBox 18 = .ok (.goto 4, 3) := by decide +kernel
theorem dX11_boundingBox_21 : decode cX11_boundingBox 21 = .ok (.iconst 1, 1) := by decide +kernel
theorem dX11_boundingBox_22 : decode cX11_boundingBox 22 = .ok (.istore_n 2, 1) := by decide +kernel
theorem dX11_boundingBox_23 : decode cX11_boundingBox 23 = .ok (.ldc 65, 2) := by decide +kernel
theorem dX11_boundingBox_25 : decode cX11_boundingBox 25 = .ok (.istore_n 3, 1) := by decide +kernel
theorem dX11_boundingBox_26 : decode cX11_boundingBox 26 = .ok (.iconst 0, 1) := by decide +kernel
theorem dX11_boundingBox_27 : decode cX11_boundingBox 27 = .ok (.istore 4, 2) := by decide +kernel
theorem dX11_boundingBox_29 : decode cX11_boundingBox 29 = .ok (.iload 4, 2) := by decide +kernel
theorem dX11_boundingBox_31 : decode cX11_boundingBox 31 = .ok (.aload_n 0, 1) := by decide +kernel
theorem dX11_boundingBox_32 : decode cX11_boundingBox 32 = .ok (.getfield 7, 3) := by decide +kernel
theorem dX11_boundingBox_35 : decode cX11_boundingBox 35 = .ok (.iconst 3, 1) := by decide +kernel
theorem dX11_boundingBox_36 : decode cX11_boundingBox 36 = .ok (.iaload, 1) := by decide +kernel
theorem dX11_boundingBox_37 : decode cX11_boundingBox 37 = .ok (.if_icmp .ge 73, 3) := by decide +kernel
theorem dX11_boundingBox_40 : decode cX11_boundingBox 40 = .ok (.iload_n 1, 1) := by decide +kernel
theorem dX11_boundingBox_41 : decode cX11_boundingBox 41 = .ok (.iconst 2, 1) := by decide +kernel
theorem dX11_boundingBox_42 : decode cX11_boundingBox 42 = .ok (.irem, 1) := by decide +kernel
theorem dX11_boundingBox_43 : decode cX11_boundingBox 43 = .ok (.ifCond .ne 26, 3) := by decide +kernel
theorem dX11_boundingBox_46 : decode cX11_boundingBox 46 = .ok (.aload_n 0, 1) := by decide +kernel
theorem dX11_boundingBox_47 : decode cX11_boundingBox 47 = .ok (.iload 4, 2) := by decide +kernel
theorem dX11_boundingBox_49 : decode cX11_boundingBox 49 = .ok (.invokestatic 257, 3) := by decide +kernel
theorem dX11_boundingBox_52 : decode cX11_boundingBox 52 = .ok (.iload_n 2, 1) := by decide +kernel
theorem dX11_boundingBox_53 : decode cX11_boundingBox 53 = .ok (.iconst 0, 1) := by decide +kernel
theorem dX11_boundingBox_54 : decode cX11_boundingBox 54 = .ok (.invokevirtual 227, 3) := by decide +kernel
theorem dX11_boundingBox_57 : decode cX11_boundingBox 57 = .ok (.iload_n 2, 1) := by decide +kernel
theorem dX11_boundingBox_58 : decode cX11_boundingBox 58 = .ok (.aload_n 0, 1) := by decide +kernel
theorem dX11_boundingBox_59 : decode cX11_boundingBox 59 = .ok (.iload 4, 2) := by decide +kernel
theorem dX11_boundingBox_61 : decode cX11_boundingBox 61 = .ok (.invokevirtual 260, 3) := by decide +kernel
theorem dX11_boundingBox_64 : decode cX11_boundingBox 64 = .ok (.imul, 1) := by decide +kernel
theorem dX11_boundingBox_65 : decode cX11_boundingBox 65 = .ok (.iadd, 1) := by decide +kernel
theorem dX11_boundingBox_66 : decode cX11_boundingBox 66 = .ok (.goto 23, 3) := by decide +kernel
theorem dX11_boundingBox_69 : decode cX11_boundingBox 69 = .ok (.aload_n 0, 1) := by decide +kernel
theorem dX11_boundingBox_70 : decode cX11_boundingBox 70 = .ok (.iload 4, 2) := by decide +kernel
theorem dX11_boundingBox_72 : decode cX11_boundingBox 72 = .ok (.invokestatic 257, 3) := by decide +kernel
theorem dX11_boundingBox_75 : decode cX11_boundingBox 75 = .ok (.iconst 0, 1) := by decide +kernel
theorem dX11_boundingBox_76 : decode cX11_boundingBox 76 = .ok (.iload_n 2, 1) := by decide +kernel
theorem dX11_boundingBox_77 : decode cX11_boundingBox 77 = .ok (.invokevirtual 227, 3) := by decide +kernel
theorem dX11_boundingBox_80 : decode cX11_boundingBox 80 = .ok (.iload_n 2, 1) := by decide +kernel
theorem dX11_boundingBox_81 : decode cX11_boundingBox 81 = .ok (.aload_n 0, 1) := by decide +kernel
theorem dX11_boundingBox_82 : decode cX11_boundingBox 82 = .ok (.iload 4, 2) := by decide +kernel
theorem dX11_boundingBox_84 : decode cX11_boundingBox 84 = .ok (.invokevirtual 263, 3) := by decide +kernel
theorem dX11_boundingBox_87 : decode cX11_boundingBox 87 = .ok (.imul, 1) := by decide +kernel
theorem dX11_boundingBox_88 : decode cX11_boundingBox 88 = .ok (.iadd, 1) := by decide +kernel
theorem dX11_boundingBox_89 : decode cX11_boundingBox 89 = .ok (.istore 5, 2) := by decide +kernel
theorem dX11_boundingBox_91 : decode cX11_boundingBox 91 = .ok (.iload 5, 2) := by decide +kernel
theorem dX11_boundingBox_93 : decode cX11_boundingBox 93 = .ok (.iload_n 3, 1) := by decide +kernel
theorem dX11_boundingBox_94 : decode cX11_boundingBox 94 = .ok (.if_icmp .le 8, 3) := by decide +kernel
theorem dX11_boundingBox_97 : decode cX11_boundingBox 97 = .ok (.iload 5, 2) := by decide +kernel
theorem dX11_boundingBox_99 : decode cX11_boundingBox 99 = .ok (.goto 4, 3) := by decide +kernel
theorem dX11_boundingBox_102 : decode cX11_boundingBox 102 = .ok (.iload_n 3, 1) := by decide +kernel
theorem dX11_boundingBox_103 : decode cX11_boundingBox 103 = .ok (.istore_n 3, 1) := by decide +kernel
theorem dX11_boundingBox_104 : decode cX11_boundingBox 104 = .ok (.iinc 4 1, 3) := by decide +kernel
theorem dX11_boundingBox_107 : decode cX11_boundingBox 107 = .ok (.goto (-78), 3) := by decide +kernel
theorem dX11_boundingBox_110 : decode cX11_boundingBox 110 = .ok (.aload_n 0, 1) := by decide +kernel
theorem dX11_boundingBox_111 : decode cX11_boundingBox 111 = .ok (.getfield 7, 3) := by decide +kernel
theorem dX11_boundingBox_114 : decode cX11_boundingBox 114 = .ok (.iconst 3, 1) := by decide +kernel
theorem dX11_boundingBox_115 : decode cX11_boundingBox 115 = .ok (.iaload, 1) := by decide +kernel
theorem dX11_boundingBox_116 : decode cX11_boundingBox 116 = .ok (.ifCond .ne 8, 3) := by decide +kernel
theorem dX11_boundingBox_119 : decode cX11_boundingBox 119 = .ok (.ldc 226, 2) := by decide +kernel
theorem dX11_boundingBox_121 : decode cX11_boundingBox 121 = .ok (.goto 6, 3) := by decide +kernel
theorem dX11_boundingBox_124 : decode cX11_boundingBox 124 = .ok (.iload_n 2, 1) := by decide +kernel
theorem dX11_boundingBox_125 : decode cX11_boundingBox 125 = .ok (.iload_n 3, 1) := by decide +kernel
theorem dX11_boundingBox_126 : decode cX11_boundingBox 126 = .ok (.imul, 1) := by decide +kernel
theorem dX11_boundingBox_127 : decode cX11_boundingBox 127 = .ok (.ireturn, 1) := by decide +kernel
abbrev rmX11_boundingBox : Room := { frames := 3, cells := 0, slots := 0, locals := 120 }
abbrev sX11_boundingBox (E : EV) : List AV → AH → (Option AV → AH → Prop) → Prop := Spec E yX11_boundingBox cX11_boundingBox 6 (some .int) rmX11_boundingBox
theorem mX11_boundingBox : Mt yX11_boundingBox cX11_boundingBox 6 (some .int) 1 := ⟨k1420, k12, by decide +kernel⟩
theorem vX11_boundingBox : MtV yX11_boundingBox 11 := ⟨k1418, k1419, by decide, (RX11, TX11, 26), rfl, rfl⟩
def PX11_boundingBox_89 (E : EV) (post : Option AV → AH → Prop) (J29 : AH → Option Nat → Int32 → Int32 → Int32 → Int32 → Prop) (h : AH) (l0 : Option Nat) (l1 : Int32) (l2 : Int32) (l3 : Int32) (l4 : Int32) (s0 : Int32) : Prop :=
  (s0 ≤ l3 → J29 h l0 l1 l2 l3 (l4 + (1 : Int32))) ∧ (¬ s0 ≤ l3 → J29 h l0 l1 l2 s0 (l4 + (1 : Int32)))
theorem bX11_boundingBox_89 {E : EV} {X : AX} {post : Option AV → AH → Prop} (C : Cb E X cX11_boundingBox RX11 6 rmX11_boundingBox) (D : Cr E X (some .int) rmX11_boundingBox "boundingBox" post) {J29 : AH → Option Nat → Int32 → Int32 → Int32 → Int32 → Prop} (g29 : ∀ (h : AH) (l0 : Option Nat) (l1 : Int32) (l2 : Int32) (l3 : Int32) (l4 : Int32), J29 h l0 l1 l2 l3 l4 → Go E X 6 0 0 29 [(0, aP l0), (1, aI l1), (2, aI l2), (3, aI l3), (4, aI l4)] [] h) {h : AH} {l0 : Option Nat} {l1 : Int32} {l2 : Int32} {l3 : Int32} {l4 : Int32} {s0 : Int32} (w : PX11_boundingBox_89 E post J29 h l0 l1 l2 l3 l4 s0) : Go E X 6 0 0 89 [(0, aP l0), (1, aI l1), (2, aI l2), (3, aI l3), (4, aI l4)] [aI s0] h := by
  unfold PX11_boundingBox_89 at w
  refine r_istore C dX11_boundingBox_89 (by decide) rfl ?_
  refine r_iload C dX11_boundingBox_91 0 rfl ?_
  refine r_iload_n C dX11_boundingBox_93 rfl 4 rfl ?_
  refine r_icmp_le C dX11_boundingBox_94 (tgt := 102) rfl (fun hc => ?_) (fun hc => ?_)
  · have w := w.1 hc
    refine r_iload_n C dX11_boundingBox_102 rfl 4 rfl ?_
    refine r_istore_n C dX11_boundingBox_103 rfl (by decide) rfl ?_
    refine r_iinc C dX11_boundingBox_104 5 rfl (v := 1) rfl (by decide) rfl ?_
    refine r_goto C dX11_boundingBox_107 (tgt := 29) rfl ?_
    exact r_sub [3, 4, 5, 1, 0] rfl (g29 h l0 l1 l2 l3 (l4 + (1 : Int32)) w)
  · have w := w.2 hc
    refine r_iload C dX11_boundingBox_97 0 rfl ?_
    refine r_goto C dX11_boundingBox_99 (tgt := 103) rfl ?_
    refine r_istore_n C dX11_boundingBox_103 rfl (by decide) rfl ?_
    refine r_iinc C dX11_boundingBox_104 5 rfl (v := 1) rfl (by decide) rfl ?_
    refine r_goto C dX11_boundingBox_107 (tgt := 29) rfl ?_
    exact r_sub [3, 4, 5, 1, 0] rfl (g29 h l0 l1 l2 s0 (l4 + (1 : Int32)) w)
def PX11_boundingBox_29 (E : EV) (post : Option AV → AH → Prop) (J29 : AH → Option Nat → Int32 → Int32 → Int32 → Int32 → Prop) (h : AH) (l0 : Option Nat) (l1 : Int32) (l2 : Int32) (l3 : Int32) (l4 : Int32) : Prop :=
  rdP h l0 11 0 fun x1 => aldI h x1 0 (3 : Int32) fun x2 => (x2 ≤ l4 → rdP h l0 11 0 fun x3 => aldI h x3 0 (3 : Int32) fun x4 => (¬ x4 = 0 → post (some (aI (l2 * l3))) h) ∧ (x4 = 0 → post (some (aI (-1000009 : Int32))) h)) ∧ (¬ x2 ≤ l4 → ¬ (2 : Int32) = 0 ∧ ((¬ (l1 - l1 / (2 : Int32) * (2 : Int32)) = 0 → CS (sX11_itemShape E) [aI l4] h (kI fun x3 h4 => CV (sX11_highest E) l0 11 [aI x3, aI (0 : Int32), aI l2] h4 (kI fun x5 h6 => CV (sX11_itemY E) l0 11 [aI l4] h6 (kI fun x7 h8 => PX11_boundingBox_89 E post J29 h8 l0 l1 l2 l3 l4 (x5 + (l2 * x7)))))) ∧ ((l1 - l1 / (2 : Int32) * (2 : Int32)) = 0 → CS (sX11_itemShape E) [aI l4] h (kI fun x3 h4 => CV (sX11_highest E) l0 11 [aI x3, aI l2, aI (0 : Int32)] h4 (kI fun x5 h6 => CV (sX11_itemX E) l0 11 [aI l4] h6 (kI fun x7 h8 => PX11_boundingBox_89 E post J29 h8 l0 l1 l2 l3 l4 (x5 + (l2 * x7))))))))
theorem bX11_boundingBox_29 {E : EV} {X : AX} {post : Option AV → AH → Prop} (C : Cb E X cX11_boundingBox RX11 6 rmX11_boundingBox) (D : Cr E X (some .int) rmX11_boundingBox "boundingBox" post) {J29 : AH → Option Nat → Int32 → Int32 → Int32 → Int32 → Prop} (g29 : ∀ (h : AH) (l0 : Option Nat) (l1 : Int32) (l2 : Int32) (l3 : Int32) (l4 : Int32), J29 h l0 l1 l2 l3 l4 → Go E X 6 0 0 29 [(0, aP l0), (1, aI l1), (2, aI l2), (3, aI l3), (4, aI l4)] [] h) {h : AH} {l0 : Option Nat} {l1 : Int32} {l2 : Int32} {l3 : Int32} {l4 : Int32} (w : PX11_boundingBox_29 E post J29 h l0 l1 l2 l3 l4) : Go E X 6 0 0 29 [(0, aP l0), (1, aI l1), (2, aI l2), (3, aI l3), (4, aI l4)] [] h := by
  unfold PX11_boundingBox_29 at w
  refine r_iload C dX11_boundingBox_29 4 rfl ?_
  refine r_aload_n C dX11_boundingBox_31 rfl 0 rfl ?_
  refine r_getP C fcX11 (f := 0) (by decide) rfl k943 dX11_boundingBox_32 (w.mono fun x1 w => ?_)
  refine r_iconst (v := 3) C dX11_boundingBox_35 rfl ?_
  refine r_iald C dX11_boundingBox_36 (w.mono fun x2 w => ?_)
  refine r_icmp_ge C dX11_boundingBox_37 (tgt := 110) rfl (fun hc => ?_) (fun hc => ?_)
  · have w := w.1 hc
    refine r_aload_n C dX11_boundingBox_110 rfl 0 rfl ?_
    refine r_getP C fcX11 (f := 0) (by decide) rfl k943 dX11_boundingBox_111 (w.mono fun x3 w => ?_)
    refine r_iconst (v := 3) C dX11_boundingBox_114 rfl ?_
    refine r_iald C dX11_boundingBox_115 (w.mono fun x4 w => ?_)
    refine r_if_ne C dX11_boundingBox_116 (tgt := 124) rfl (fun hc => ?_) (fun hc => ?_)
    · have w := w.1 hc
      refine r_iload_n C dX11_boundingBox_124 rfl 2 rfl ?_
      refine r_iload_n C dX11_boundingBox_125 rfl 3 rfl ?_
      refine r_imul C dX11_boundingBox_126 ?_
      exact r_iret C D rfl (Nat.zero_le _) (Nat.zero_le _) dX11_boundingBox_127 w
    · have w := w.2 hc
      refine r_ldc (v := -1000009) C dX11_boundingBox_119 k1170 ?_
      refine r_goto C dX11_boundingBox_121 (tgt := 127) rfl ?_
      exact r_iret C D rfl (Nat.zero_le _) (Nat.zero_le _) dX11_boundingBox_127 w
  · have w := w.2 hc
    refine r_iload_n C dX11_boundingBox_40 rfl 1 rfl ?_
    refine r_iconst (v := 2) C dX11_boundingBox_41 rfl ?_
    refine r_irem C dX11_boundingBox_42 w.1 ?_
    have w := w.2
    refine r_if_ne C dX11_boundingBox_43 (tgt := 69) rfl (fun hc => ?_) (fun hc => ?_)
    · have w := w.1 hc
      refine r_aload_n C dX11_boundingBox_69 rfl 0 rfl ?_
      refine r_iload C dX11_boundingBox_70 4 rfl ?_
      refine r_csI (rm' := rmX11_itemShape) C mX11_itemShape vX11_itemShape k1281 [aI l4] [aP l0] rfl rfl (Nat.le_of_ble_eq_true rfl) (by decide) ⟨Nat.zero_le _, Nat.zero_le _⟩ 0 0 rfl rfl dX11_boundingBox_72 w (fun x3 h4 w => ?_)
      refine r_iconst (v := 0) C dX11_boundingBox_75 rfl ?_
      refine r_iload_n C dX11_boundingBox_76 rfl 2 rfl ?_
      refine r_cvI (rm' := rmX11_highest) C mX11_highest vX11_highest k1181 [aI x3, aI (0 : Int32), aI l2] [] rfl rfl (Nat.le_of_ble_eq_true rfl) (by decide) ⟨Nat.zero_le _, Nat.zero_le _⟩ 0 0 rfl rfl dX11_boundingBox_77 w (fun x5 h6 w => ?_)
      refine r_iload_n C dX11_boundingBox_80 rfl 2 rfl ?_
      refine r_aload_n C dX11_boundingBox_81 rfl 0 rfl ?_
      refine r_iload C dX11_boundingBox_82 4 rfl ?_
      refine r_cvI (rm' := rmX11_itemY) C mX11_itemY vX11_itemY k1288 [aI l4] [aI l2, aI x5] rfl rfl (Nat.le_of_ble_eq_true rfl) (by decide) ⟨Nat.zero_le _, Nat.zero_le _⟩ 0 0 rfl rfl dX11_boundingBox_84 w (fun x7 h8 w => ?_)
      refine r_imul C dX11_boundingBox_87 ?_
      refine r_iadd C dX11_boundingBox_88 ?_
      exact (bX11_boundingBox_89 C D g29 w)
    · have w := w.2 hc
      refine r_aload_n C dX11_boundingBox_46 rfl 0 rfl ?_
      refine r_iload C dX11_boundingBox_47 4 rfl ?_
      refine r_csI (rm' := rmX11_itemShape) C mX11_itemShape vX11_itemShape k1281 [aI l4] [aP l0] rfl rfl (Nat.le_of_ble_eq_true rfl) (by decide) ⟨Nat.zero_le _, Nat.zero_le _⟩ 0 0 rfl rfl dX11_boundingBox_49 w (fun x3 h4 w => ?_)
      refine r_iload_n C dX11_boundingBox_52 rfl 2 rfl ?_
      refine r_iconst (v := 0) C dX11_boundingBox_53 rfl ?_
      refine r_cvI (rm' := rmX11_highest) C mX11_highest vX11_highest k1181 [aI x3, aI l2, aI (0 : Int32)] [] rfl rfl (Nat.le_of_ble_eq_true rfl) (by decide) ⟨Nat.zero_le _, Nat.zero_le _⟩ 0 0 rfl rfl dX11_boundingBox_54 w (fun x5 h6 w => ?_)
      refine r_iload_n C dX11_boundingBox_57 rfl 2 rfl ?_
      refine r_aload_n C dX11_boundingBox_58 rfl 0 rfl ?_
      refine r_iload C dX11_boundingBox_59 4 rfl ?_
      refine r_cvI (rm' := rmX11_itemX) C mX11_itemX vX11_itemX k1284 [aI l4] [aI l2, aI x5] rfl rfl (Nat.le_of_ble_eq_true rfl) (by decide) ⟨Nat.zero_le _, Nat.zero_le _⟩ 0 0 rfl rfl dX11_boundingBox_61 w (fun x7 h8 w => ?_)
      refine r_imul C dX11_boundingBox_64 ?_
      refine r_iadd C dX11_boundingBox_65 ?_
      refine r_goto C dX11_boundingBox_66 (tgt := 89) rfl ?_
      exact (bX11_boundingBox_89 C D g29 w)
theorem lpX11_boundingBox_29 {E : EV} {X : AX} {post : Option AV → AH → Prop} (C : Cb E X cX11_boundingBox RX11 6 rmX11_boundingBox) (D : Cr E X (some .int) rmX11_boundingBox "boundingBox" post) (I : Nat → AH → Option Nat → Int32 → Int32 → Int32 → Int32 → Prop) (step : ∀ (z : Nat) (h : AH) (l0 : Option Nat) (l1 : Int32) (l2 : Int32) (l3 : Int32) (l4 : Int32), I z h l0 l1 l2 l3 l4 → PX11_boundingBox_29 E post (fun h l0 l1 l2 l3 l4 => ∃ z', z' < z ∧ I z' h l0 l1 l2 l3 l4) h l0 l1 l2 l3 l4) : ∀ (z : Nat) (h : AH) (l0 : Option Nat) (l1 : Int32) (l2 : Int32) (l3 : Int32) (l4 : Int32), I z h l0 l1 l2 l3 l4 → Go E X 6 0 0 29 [(0, aP l0), (1, aI l1), (2, aI l2), (3, aI l3), (4, aI l4)] [] h := by
  intro z
  induction z using Nat.strongRecOn with
  | _ z ih =>
    intro h l0 l1 l2 l3 l4 hI
    exact bX11_boundingBox_29 C D (fun h l0 l1 l2 l3 l4 hJ => by obtain ⟨z', hz, hi⟩ := hJ; exact ih z' hz h l0 l1 l2 l3 l4 hi) (step z h l0 l1 l2 l3 l4 hI)
def PX11_boundingBox_22 (E : EV) (post : Option AV → AH → Prop) (J29 : AH → Option Nat → Int32 → Int32 → Int32 → Int32 → Prop) (h : AH) (l0 : Option Nat) (l1 : Int32) (s0 : Int32) : Prop :=
  J29 h l0 l1 s0 (-100000 : Int32) (0 : Int32)
theorem bX11_boundingBox_22 {E : EV} {X : AX} {post : Option AV → AH → Prop} (C : Cb E X cX11_boundingBox RX11 6 rmX11_boundingBox) (D : Cr E X (some .int) rmX11_boundingBox "boundingBox" post) {J29 : AH → Option Nat → Int32 → Int32 → Int32 → Int32 → Prop} (g29 : ∀ (h : AH) (l0 : Option Nat) (l1 : Int32) (l2 : Int32) (l3 : Int32) (l4 : Int32), J29 h l0 l1 l2 l3 l4 → Go E X 6 0 0 29 [(0, aP l0), (1, aI l1), (2, aI l2), (3, aI l3), (4, aI l4)] [] h) {h : AH} {l0 : Option Nat} {l1 : Int32} {s0 : Int32} (w : PX11_boundingBox_22 E post J29 h l0 l1 s0) : Go E X 6 0 0 22 [(0, aP l0), (1, aI l1)] [aI s0] h := by
  unfold PX11_boundingBox_22 at w
  refine r_istore_n C dX11_boundingBox_22 rfl (by decide) rfl ?_
  refine r_ldc (v := -100000) C dX11_boundingBox_23 k1185 ?_
  refine r_istore_n C dX11_boundingBox_25 rfl (by decide) rfl ?_
  refine r_iconst (v := 0) C dX11_boundingBox_26 rfl ?_
  refine r_istore C dX11_boundingBox_27 (by decide) rfl ?_
  exact r_sub [3, 4, 2, 1, 0] rfl (g29 h l0 l1 s0 (-100000 : Int32) (0 : Int32) w)
def PX11_boundingBox_0 (E : EV) (post : Option AV → AH → Prop) (J29 : AH → Option Nat → Int32 → Int32 → Int32 → Int32 → Prop) (h : AH) (l0 : Option Nat) (l1 : Int32) : Prop :=
  CS (sX11_in E) [aI l1, aI (0 : Int32), aI (3 : Int32)] h (kI fun x1 h2 => (¬ x1 = 0 → ((2 : Int32) ≤ l1 → PX11_boundingBox_22 E post J29 h2 l0 l1 (1 : Int32)) ∧ (¬ (2 : Int32) ≤ l1 → PX11_boundingBox_22 E post J29 h2 l0 l1 (-1 : Int32))) ∧ (x1 = 0 → post (some (aI (-1000001 : Int32))) h2))
theorem bX11_boundingBox_0 {E : EV} {X : AX} {post : Option AV → AH → Prop} (C : Cb E X cX11_boundingBox RX11 6 rmX11_boundingBox) (D : Cr E X (some .int) rmX11_boundingBox "boundingBox" post) {J29 : AH → Option Nat → Int32 → Int32 → Int32 → Int32 → Prop} (g29 : ∀ (h : AH) (l0 : Option Nat) (l1 : Int32) (l2 : Int32) (l3 : Int32) (l4 : Int32), J29 h l0 l1 l2 l3 l4 → Go E X 6 0 0 29 [(0, aP l0), (1, aI l1), (2, aI l2), (3, aI l3), (4, aI l4)] [] h) {h : AH} {l0 : Option Nat} {l1 : Int32} (w : PX11_boundingBox_0 E post J29 h l0 l1) : Go E X 6 0 0 0 [(0, aP l0), (1, aI l1)] [] h := by
  unfold PX11_boundingBox_0 at w
  refine r_iload_n C dX11_boundingBox_0 rfl 1 rfl ?_
  refine r_iconst (v := 0) C dX11_boundingBox_1 rfl ?_
  refine r_iconst (v := 3) C dX11_boundingBox_2 rfl ?_
  refine r_csI (rm' := rmX11_in) C mX11_in vX11_in k1036 [aI l1, aI (0 : Int32), aI (3 : Int32)] [] rfl rfl (Nat.le_of_ble_eq_true rfl) (by decide) ⟨Nat.zero_le _, Nat.zero_le _⟩ 0 0 rfl rfl dX11_boundingBox_3 w (fun x1 h2 w => ?_)
  refine r_if_ne C dX11_boundingBox_6 (tgt := 12) rfl (fun hc => ?_) (fun hc => ?_)
  · have w := w.1 hc
    refine r_iload_n C dX11_boundingBox_12 rfl 1 rfl ?_
    refine r_iconst (v := 2) C dX11_boundingBox_13 rfl ?_
    refine r_icmp_ge C dX11_boundingBox_14 (tgt := 21) rfl (fun hc => ?_) (fun hc => ?_)
    · have w := w.1 hc
      refine r_iconst (v := 1) C dX11_boundingBox_21 rfl ?_
      exact (bX11_boundingBox_22 C D g29 w)
    · have w := w.2 hc
      refine r_iconst (v := -1) C dX11_boundingBox_17 rfl ?_
      refine r_goto C dX11_boundingBox_18 (tgt := 22) rfl ?_
      exact (bX11_boundingBox_22 C D g29 w)
  · have w := w.2 hc
    refine r_ldc (v := -1000001) C dX11_boundingBox_9 k1039 ?_
    exact r_iret C D rfl (Nat.zero_le _) (Nat.zero_le _) dX11_boundingBox_11 w
theorem eX11_boundingBox {E : EV} {post : Option AV → AH → Prop} {h : AH} {l0 : Option Nat} {l1 : Int32} {J29 : AH → Option Nat → Int32 → Int32 → Int32 → Int32 → Prop} (g29 : ∀ X : AX, Cb E X cX11_boundingBox RX11 6 rmX11_boundingBox → Cr E X (some .int) rmX11_boundingBox "boundingBox" post → ∀ (h : AH) (l0 : Option Nat) (l1 : Int32) (l2 : Int32) (l3 : Int32) (l4 : Int32), J29 h l0 l1 l2 l3 l4 → Go E X 6 0 0 29 [(0, aP l0), (1, aI l1), (2, aI l2), (3, aI l3), (4, aI l4)] [] h) (w : PX11_boundingBox_0 E post J29 h l0 l1) : sX11_boundingBox E [aP l0, aI l1] h post := Spec.of RX11 rfl rfl (Nat.le_of_ble_eq_true rfl) fun X C D => bX11_boundingBox_0 C D (g29 X C D) w
theorem dX11_isContained_0 : decode cX11_isContained 0 = .ok (.iload_n 2, 1) := by decide +kernel
theorem dX11_isContained_1 : decode cX11_isContained 1 = .ok (.aload_n 0, 1) := by decide +kernel
theorem dX11_isContained_2 : decode cX11_isContained 2 = .ok (.iload_n 1, 1) := by decide +kernel
theorem dX11_isContained_3 : decode cX11_isContained 3 = .ok (.iconst 1, 1) := by decide +kernel
theorem dX11_isContained_4 : decode cX11_isContained 4 = .ok (.iconst 0, 1) := by decide +kernel
theorem dX11_isContained_5 : decode cX11_isContained 5 = .ok (.invokevirtual 227, 3) := by decide +kernel
theorem dX11_isContained_8 : decode cX11_isContained 8 = .ok (.iadd, 1) := by decide +kernel
theorem dX11_isContained_9 : decode cX11_isContained 9 = .ok (.aload_n 0, 1) := by decide +kernel
theorem dX11_isContained_10 : decode cX11_isContained 10 = .ok (.getfield 7, 3) := by decide +kernel
theorem dX11_isContained_13 : decode cX11_isContained 13 = .ok (.iconst 0, 1) := by decide +kernel
theorem dX11_isContained_14 : decode cX11_isContained 14 = .ok (.iaload, 1) := by decide +kernel
theorem dX11_isContained_15 : decode cX11_isContained 15 = .ok (.if_icmp .gt 47, 3) := by decide +kernel
theorem dX11_isContained_18 : decode cX11_isContained 18 = .ok (.iload_n 3, 1) := by decide +kernel
theorem dX11_isContained_19 : decode cX11_isContained 19 = .ok (.aload_n 0, 1) := by decide +kernel
theorem dX11_isContained_20 : decode cX11_isContained 20 = .ok (.iload_n 1, 1) := by decide +kernel
theorem dX11_isContained_21 : decode cX11_isContained 21 = .ok (.iconst 0, 1) := by decide +kernel
theorem dX11_isContained_22 : decode cX11_isContained 22 = .ok (.iconst 1, 1) := by decide +kernel
theorem dX11_isContained_23 : decode cX11_isContained 23 = .ok (.invokevirtual 227, 3) := by decide +kernel
theorem dX11_isContained_26 : decode cX11_isContained 26 = .ok (.iadd, 1) := by decide +kernel
theorem dX11_isContained_27 : decode cX11_isContained 27 = .ok (.aload_n 0, 1) := by decide +kernel
theorem dX11_isContained_28 : decode cX11_isContained 28 = .ok (.getfield 7, 3) := by decide +kernel
theorem dX11_isContained_31 : decode cX11_isContained 31 = .ok (.iconst 1, 1) := by decide +kernel
theorem dX11_isContained_32 : decode cX11_isContained 32 = .ok (.iaload, 1) := by decide +kernel
theorem dX11_isContained_33 : decode cX11_isContained 33 = .ok (.if_icmp .gt 29, 3) := by decide +kernel
theorem dX11_isContained_36 : decode cX11_isContained 36 = .ok (.iload_n 2, 1) := by decide +kernel
theorem dX11_isContained_37 : decode cX11_isContained 37 = .ok (.aload_n 0, 1) := by decide +kernel
theorem dX11_isContained_38 : decode cX11_isContained 38 = .ok (.iload_n 1, 1) := by decide +kernel
theorem dX11_isContained_39 : decode cX11_isContained 39 = .ok (.iconst (-1), 1) := by decide +kernel
theorem dX11_isContained_40 : decode cX11_isContained 40 = .ok (.iconst 0, 1) := by decide +kernel
theorem dX11_isContained_41 : decode cX11_isContained 41 = .ok (.invokevirtual 227, 3) := by decide +kernel
theorem dX11_isContained_44 : decode cX11_isContained 44 = .ok (.if_icmp .lt 18, 3) := by decide +kernel
theorem dX11_isContained_47 : decode cX11_isContained 47 = .ok (.iload_n 3, 1) := by decide +kernel
theorem dX11_isContained_48 : decode cX11_isContained 48 = .ok (.aload_n 0, 1) := by decide +kernel
theorem dX11_isContained_49 : decode cX11_isContained 49 = .ok (.iload_n 1, 1) := by decide +kernel
theorem dX11_isContained_50 : decode cX11_isContained 50 = .ok (.iconst 0, 1) := by decide +kernel
theorem dX11_isContained_51 : decode cX11_isContained 51 = .ok (.iconst (-1), 1) := by decide +kernel
theorem dX11_isContained_52 : decode cX11_isContained 52 = .ok (.invokevirtual 227, 3) := by decide +kernel
theorem dX11_isContained_55 : decode cX11_isContained 55 = .ok (.if_icmp .lt 7, 3) := by decide +kernel
theorem dX11_isContained_58 : decode cX11_isContained 58 = .ok (.iconst 1, 1) := by decide +kernel
theorem dX11_isContained_59 : decode cX11_isContained 59 = .ok (.goto 4, 3) := by decide +kernel
theorem dX11_isContained_62 : decode cX11_isContained 62 = .ok (.iconst 0, 1) := by decide +kernel
theorem dX11_isContained_63 : decode cX11_isContained 63 = .ok (.ireturn, 1) := by decide +kernel
abbrev rmX11_isContained : Room := { frames := 3, cells := 0, slots := 0, locals := 120 }
abbrev sX11_isContained (E : EV) : List AV → AH → (Option AV → AH → Prop) → Prop := Spec E yX11_isContained cX11_isContained 4 (some .boolean) rmX11_isContained
theorem mX11_isContained : Mt yX11_isContained cX11_isContained 4 (some .boolean) 3 := ⟨k1307, k12, by decide +kernel⟩
theorem vX11_isContained : MtV yX11_isContained 11 := ⟨k1306, kp69, by decide, (RX11, TX11, 26), rfl, rfl⟩
def PX11_isContained_0 (E : EV) (post : Option AV → AH → Prop) (h : AH) (l0 : Option Nat) (l1 : Int32) (l2 : Int32) (l3 : Int32) : Prop :=
  CV (sX11_highest E) l0 11 [aI l1, aI (1 : Int32), aI (0 : Int32)] h (kI fun x1 h2 => rdP h2 l0 11 0 fun x3 => aldI h2 x3 0 (0 : Int32) fun x4 => (x4 < (l2 + x1) → post (some (aI (0 : Int32))) h2) ∧ (¬ x4 < (l2 + x1) → CV (sX11_highest E) l0 11 [aI l1, aI (0 : Int32), aI (1 : Int32)] h2 (kI fun x5 h6 => rdP h6 l0 11 0 fun x7 => aldI h6 x7 0 (1 : Int32) fun x8 => (x8 < (l3 + x5) → post (some (aI (0 : Int32))) h6) ∧ (¬ x8 < (l3 + x5) → CV (sX11_highest E) l0 11 [aI l1, aI (-1 : Int32), aI (0 : Int32)] h6 (kI fun x9 h10 => (l2 < x9 → post (some (aI (0 : Int32))) h10) ∧ (¬ l2 < x9 → CV (sX11_highest E) l0 11 [aI l1, aI (0 : Int32), aI (-1 : Int32)] h10 (kI fun x11 h12 => (l3 < x11 → post (some (aI (0 : Int32))) h12) ∧ (¬ l3 < x11 → post (some (aI (1 : Int32))) h12))))))))
theorem bX11_isContained_0 {E : EV} {X : AX} {post : Option AV → AH → Prop} (C : Cb E X cX11_isContained RX11 4 rmX11_isContained) (D : Cr E X (some .boolean) rmX11_isContained "isContained" post) {h : AH} {l0 : Option Nat} {l1 : Int32} {l2 : Int32} {l3 : Int32} (w : PX11_isContained_0 E post h l0 l1 l2 l3) : Go E X 4 0 0 0 [(0, aP l0), (1, aI l1), (2, aI l2), (3, aI l3)] [] h := by
  unfold PX11_isContained_0 at w
  refine r_iload_n C dX11_isContained_0 rfl 2 rfl ?_
  refine r_aload_n C dX11_isContained_1 rfl 0 rfl ?_
  refine r_iload_n C dX11_isContained_2 rfl 1 rfl ?_
  refine r_iconst (v := 1) C dX11_isContained_3 rfl ?_
  refine r_iconst (v := 0) C dX11_isContained_4 rfl ?_
  refine r_cvI (rm' := rmX11_highest) C mX11_highest vX11_highest k1181 [aI l1, aI (1 : Int32), aI (0 : Int32)] [aI l2] rfl rfl (Nat.le_of_ble_eq_true rfl) (by decide) ⟨Nat.zero_le _, Nat.zero_le _⟩ 0 0 rfl rfl dX11_isContained_5 w (fun x1 h2 w => ?_)
  refine r_iadd C dX11_isContained_8 ?_
  refine r_aload_n C dX11_isContained_9 rfl 0 rfl ?_
  refine r_getP C fcX11 (f := 0) (by decide) rfl k943 dX11_isContained_10 (w.mono fun x3 w => ?_)
  refine r_iconst (v := 0) C dX11_isContained_13 rfl ?_
  refine r_iald C dX11_isContained_14 (w.mono fun x4 w => ?_)
  refine r_icmp_gt C dX11_isContained_15 (tgt := 62) rfl (fun hc => ?_) (fun hc => ?_)
  · have w := w.1 hc
    refine r_iconst (v := 0) C dX11_isContained_62 rfl ?_
    exact r_zret C D rfl (Or.inl rfl) (Nat.zero_le _) (Nat.zero_le _) dX11_isContained_63 w
  · have w := w.2 hc
    refine r_iload_n C dX11_isContained_18 rfl 3 rfl ?_
    refine r_aload_n C dX11_isContained_19 rfl 0 rfl ?_
    refine r_iload_n C dX11_isContained_20 rfl 1 rfl ?_
    refine r_iconst (v := 0) C dX11_isContained_21 rfl ?_
    refine r_iconst (v := 1) C dX11_isContained_22 rfl ?_
    refine r_cvI (rm' := rmX11_highest) C mX11_highest vX11_highest k1181 [aI l1, aI (0 : Int32), aI (1 : Int32)] [aI l3] rfl rfl (Nat.le_of_ble_eq_true rfl) (by decide) ⟨Nat.zero_le _, Nat.zero_le _⟩ 0 0 rfl rfl dX11_isContained_23 w (fun x5 h6 w => ?_)
    refine r_iadd C dX11_isContained_26 ?_
    refine r_aload_n C dX11_isContained_27 rfl 0 rfl ?_
    refine r_getP C fcX11 (f := 0) (by decide) rfl k943 dX11_isContained_28 (w.mono fun x7 w => ?_)
    refine r_iconst (v := 1) C dX11_isContained_31 rfl ?_
    refine r_iald C dX11_isContained_32 (w.mono fun x8 w => ?_)
    refine r_icmp_gt C dX11_isContained_33 (tgt := 62) rfl (fun hc => ?_) (fun hc => ?_)
    · have w := w.1 hc
      refine r_iconst (v := 0) C dX11_isContained_62 rfl ?_
      exact r_zret C D rfl (Or.inl rfl) (Nat.zero_le _) (Nat.zero_le _) dX11_isContained_63 w
    · have w := w.2 hc
      refine r_iload_n C dX11_isContained_36 rfl 2 rfl ?_
      refine r_aload_n C dX11_isContained_37 rfl 0 rfl ?_
      refine r_iload_n C dX11_isContained_38 rfl 1 rfl ?_
      refine r_iconst (v := -1) C dX11_isContained_39 rfl ?_
      refine r_iconst (v := 0) C dX11_isContained_40 rfl ?_
      refine r_cvI (rm' := rmX11_highest) C mX11_highest vX11_highest k1181 [aI l1, aI (-1 : Int32), aI (0 : Int32)] [aI l2] rfl rfl (Nat.le_of_ble_eq_true rfl) (by decide) ⟨Nat.zero_le _, Nat.zero_le _⟩ 0 0 rfl rfl dX11_isContained_41 w (fun x9 h10 w => ?_)
      refine r_icmp_lt C dX11_isContained_44 (tgt := 62) rfl (fun hc => ?_) (fun hc => ?_)
      · have w := w.1 hc
        refine r_iconst (v := 0) C dX11_isContained_62 rfl ?_
        exact r_zret C D rfl (Or.inl rfl) (Nat.zero_le _) (Nat.zero_le _) dX11_isContained_63 w
      · have w := w.2 hc
        refine r_iload_n C dX11_isContained_47 rfl 3 rfl ?_
        refine r_aload_n C dX11_isContained_48 rfl 0 rfl ?_
        refine r_iload_n C dX11_isContained_49 rfl 1 rfl ?_
        refine r_iconst (v := 0) C dX11_isContained_50 rfl ?_
        refine r_iconst (v := -1) C dX11_isContained_51 rfl ?_
        refine r_cvI (rm' := rmX11_highest) C mX11_highest vX11_highest k1181 [aI l1, aI (0 : Int32), aI (-1 : Int32)] [aI l3] rfl rfl (Nat.le_of_ble_eq_true rfl) (by decide) ⟨Nat.zero_le _, Nat.zero_le _⟩ 0 0 rfl rfl dX11_isContained_52 w (fun x11 h12 w => ?_)
        refine r_icmp_lt C dX11_isContained_55 (tgt := 62) rfl (fun hc => ?_) (fun hc => ?_)
        · have w := w.1 hc
          refine r_iconst (v := 0) C dX11_isContained_62 rfl ?_
          exact r_zret C D rfl (Or.inl rfl) (Nat.zero_le _) (Nat.zero_le _) dX11_isContained_63 w
        · have w := w.2 hc
          refine r_iconst (v := 1) C dX11_isContained_58 rfl ?_
          refine r_goto C dX11_isContained_59 (tgt := 63) rfl ?_
          exact r_zret C D rfl (Or.inr rfl) (Nat.zero_le _) (Nat.zero_le _) dX11_isContained_63 w
theorem eX11_isContained {E : EV} {post : Option AV → AH → Prop} {h : AH} {l0 : Option Nat} {l1 : Int32} {l2 : Int32} {l3 : Int32} (w : PX11_isContained_0 E post h l0 l1 l2 l3) : sX11_isContained E [aP l0, aI l1, aI l2, aI l3] h post := Spec.of RX11 rfl rfl (Nat.le_of_ble_eq_true rfl) fun X C D => bX11_isContained_0 C D w
