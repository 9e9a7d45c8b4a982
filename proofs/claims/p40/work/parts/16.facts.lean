/-! facts of the classes; calls by the kind of what they answer -/
theorem fcX0 : Fc 0 RX0 TX0 2 tyX0 := ⟨by decide, rfl, inU0, tyX0_ok, nmX0⟩
theorem df_X0 {E : EV} : ∀ j, j < 2 → defaultValue (tyX0 j) = toV E (([aJ 0, aJ 0] : List AV).getD j (aP none)) := fun j hj => match j, hj with | 0, _ => rfl | 1, _ => rfl | q + 2, h => absurd h (by omega)
theorem fcX1 : Fc 1 RX1 TX1 2 tyX1 := ⟨by decide, rfl, inU1, tyX1_ok, nmX1⟩
theorem df_X1 {E : EV} : ∀ j, j < 2 → defaultValue (tyX1 j) = toV E (([aP none, aI 0] : List AV).getD j (aP none)) := fun j hj => match j, hj with | 0, _ => rfl | 1, _ => rfl | q + 2, h => absurd h (by omega)
theorem fcX2 : Fc 2 RX2 TX2 4 tyX2 := ⟨by decide, rfl, inU2, tyX2_ok, nmX2⟩
theorem df_X2 {E : EV} : ∀ j, j < 4 → defaultValue (tyX2 j) = toV E (([aP none, aP none, aP none, aI 0] : List AV).getD j (aP none)) := fun j hj => match j, hj with | 0, _ => rfl | 1, _ => rfl | 2, _ => rfl | 3, _ => rfl | q + 4, h => absurd h (by omega)
theorem fcX3 : Fc 3 RX3 TX3 4 tyX3 := ⟨by decide, rfl, inU3, tyX3_ok, nmX3⟩
theorem df_X3 {E : EV} : ∀ j, j < 4 → defaultValue (tyX3 j) = toV E (([aP none, aP none, aP none, aP none] : List AV).getD j (aP none)) := fun j hj => match j, hj with | 0, _ => rfl | 1, _ => rfl | 2, _ => rfl | 3, _ => rfl | q + 4, h => absurd h (by omega)
theorem fcX4 : Fc 4 RX4 TX4 10 tyX4 := ⟨by decide, rfl, inU4, tyX4_ok, nmX4⟩
theorem df_X4 {E : EV} : ∀ j, j < 10 → defaultValue (tyX4 j) = toV E (([aP none, aP none, aP none, aI 0, aI 0, aI 0, aI 0, aI 0, aI 0, aI 0] : List AV).getD j (aP none)) := fun j hj => match j, hj with | 0, _ => rfl | 1, _ => rfl | 2, _ => rfl | 3, _ => rfl | 4, _ => rfl | 5, _ => rfl | 6, _ => rfl | 7, _ => rfl | 8, _ => rfl | 9, _ => rfl | q + 10, h => absurd h (by omega)
theorem fcX5 : Fc 5 RX5 TX5 8 tyX5 := ⟨by decide, rfl, inU5, tyX5_ok, nmX5⟩
theorem df_X5 {E : EV} : ∀ j, j < 8 → defaultValue (tyX5 j) = toV E (([aP none, aP none, aI 0, aI 0, aI 0, aI 0, aI 0, aI 0] : List AV).getD j (aP none)) := fun j hj => match j, hj with | 0, _ => rfl | 1, _ => rfl | 2, _ => rfl | 3, _ => rfl | 4, _ => rfl | 5, _ => rfl | 6, _ => rfl | 7, _ => rfl | q + 8, h => absurd h (by omega)
theorem fcX6 : Fc 6 RX6 TX6 9 tyX6 := ⟨by decide, rfl, inU6, tyX6_ok, nmX6⟩
theorem df_X6 {E : EV} : ∀ j, j < 9 → defaultValue (tyX6 j) = toV E (([aP none, aP none, aP none, aI 0, aI 0, aI 0, aI 0, aI 0, aI 0] : List AV).getD j (aP none)) := fun j hj => match j, hj with | 0, _ => rfl | 1, _ => rfl | 2, _ => rfl | 3, _ => rfl | 4, _ => rfl | 5, _ => rfl | 6, _ => rfl | 7, _ => rfl | 8, _ => rfl | q + 9, h => absurd h (by omega)
theorem fcX7 : Fc 7 RX7 TX7 2 tyX7 := ⟨by decide, rfl, inU7, tyX7_ok, nmX7⟩
theorem df_X7 {E : EV} : ∀ j, j < 2 → defaultValue (tyX7 j) = toV E (([aP none, aP none] : List AV).getD j (aP none)) := fun j hj => match j, hj with | 0, _ => rfl | 1, _ => rfl | q + 2, h => absurd h (by omega)
theorem fcX8 : Fc 8 RX8 TX8 9 tyX8 := ⟨by decide, rfl, inU8, tyX8_ok, nmX8⟩
theorem df_X8 {E : EV} : ∀ j, j < 9 → defaultValue (tyX8 j) = toV E (([aP none, aP none, aP none, aP none, aP none, aI 0, aI 0, aI 0, aI 0] : List AV).getD j (aP none)) := fun j hj => match j, hj with | 0, _ => rfl | 1, _ => rfl | 2, _ => rfl | 3, _ => rfl | 4, _ => rfl | 5, _ => rfl | 6, _ => rfl | 7, _ => rfl | 8, _ => rfl | q + 9, h => absurd h (by omega)
theorem fcX9 : Fc 9 RX9 TX9 4 tyX9 := ⟨by decide, rfl, inU9, tyX9_ok, nmX9⟩
theorem df_X9 {E : EV} : ∀ j, j < 4 → defaultValue (tyX9 j) = toV E (([aP none, aI 0, aI 0, aI 0] : List AV).getD j (aP none)) := fun j hj => match j, hj with | 0, _ => rfl | 1, _ => rfl | 2, _ => rfl | 3, _ => rfl | q + 4, h => absurd h (by omega)
theorem fcX10 : Fc 10 RX10 TX10 12 tyX10 := ⟨by decide, rfl, inU10, tyX10_ok, nmX10⟩
theorem df_X10 {E : EV} : ∀ j, j < 12 → defaultValue (tyX10 j) = toV E (([aP none, aP none, aP none, aP none, aP none, aP none, aP none, aP none, aP none, aP none, aP none, aP none] : List AV).getD j (aP none)) := fun j hj => match j, hj with | 0, _ => rfl | 1, _ => rfl | 2, _ => rfl | 3, _ => rfl | 4, _ => rfl | 5, _ => rfl | 6, _ => rfl | 7, _ => rfl | 8, _ => rfl | 9, _ => rfl | 10, _ => rfl | 11, _ => rfl | q + 12, h => absurd h (by omega)
theorem nr_Z {E : EV} {x : Int32} (h : x = 0 ∨ x = 1) : narrow .boolean (toV E (aI x)) = toV E (aI x) := by rcases h with rfl | rfl <;> rfl
theorem ft_Z {E : EV} {x : Int32} (h : x = 0 ∨ x = 1) : fits .boolean (toV E (aI x)) = true := by rcases h with rfl | rfl <;> rfl
theorem ft_P {E : EV} (C : String) (o : Option Nat) : fits (.object C) (toV E (aP o)) = true := by cases o <;> rfl
theorem ft_A {E : EV} (C : FieldType) (o : Option Nat) : fits (.array C) (toV E (aP o)) = true := by cases o <;> rfl
theorem ra_int : ∀ (U : State) (cA : ClassId), va_RA U cA .int → U.vm.findClass ("[" ++ FieldType.int.toString) = some cA := fun _ _ h => va_nm_int h
section CB
variable {E : EV} {X : AX} {cc : ByteArray} {own : String} {nL : Nat} {rm rm' : Room} {k n pc : Nat} {lv : List (Nat × AV)} {st : List AV} {h : AH} {o : Option Nat} {index na ci maxL : Nat} {y : MethodName} {bytes : ByteArray} {ret : Option FieldType}
theorem r_cvI {K : Int32 → AH → Prop} (C : Cb E X cc own nL rm) (M : Mt y bytes maxL ret na) (MV : MtV y ci) (hlk : Cond.methodLink own index y ∈ Wg) (As rest : List AV) (hna : As.length = na) (hst : st = As.reverse ++ aP o :: rest) (hrest : avlen rest ≤ 8)
    (hfr : rm'.frames + 1 ≤ rm.frames ∧ 8 + (maxL + 11) + rm'.locals ≤ rm.locals) (hf : k + rm'.cells ≤ rm.cells ∧ n + rm'.slots ≤ rm.slots) (k' n' : Nat) (hk' : k + rm'.cells = k') (hn' : n + rm'.slots = n') (d : decode cc pc = .ok (.invokevirtual index, 3))
    (w : CV (Spec E y bytes maxL ret rm') o ci As h (kI K)) (g : ∀ (x : Int32) (h' : AH), K x h' → Go E X nL k' n' (pc + 3) lv (aI x :: rest) h') : Go E X nL k n pc lv st h :=
  r_cv (K := fun _ _ => True) C M MV hlk hna hst hrest hfr hf hk' hn' d (w.mono fun v h' hv => by obtain ⟨x, e, q⟩ := hv; subst e; exact g x h' q)
theorem r_csI {K : Int32 → AH → Prop} (C : Cb E X cc own nL rm) (M : Mt y bytes maxL ret na) (MS : MtS y) (hlk : Cond.methodLink own index y ∈ Wg) (As rest : List AV) (hna : As.length = na) (hst : st = As.reverse ++ rest) (hrest : avlen rest ≤ 8)
    (hfr : rm'.frames + 1 ≤ rm.frames ∧ 8 + (maxL + 11) + rm'.locals ≤ rm.locals) (hf : k + rm'.cells ≤ rm.cells ∧ n + rm'.slots ≤ rm.slots) (k' n' : Nat) (hk' : k + rm'.cells = k') (hn' : n + rm'.slots = n') (d : decode cc pc = .ok (.invokestatic index, 3))
    (w : CS (Spec E y bytes maxL ret rm') As h (kI K)) (g : ∀ (x : Int32) (h' : AH), K x h' → Go E X nL k' n' (pc + 3) lv (aI x :: rest) h') : Go E X nL k n pc lv st h :=
  r_cs (K := fun _ _ => True) C M MS hlk hna hst hrest hfr hf hk' hn' d (w.mono fun v h' hv => by obtain ⟨x, e, q⟩ := hv; subst e; exact g x h' q)
theorem r_cvJ {K : Int64 → AH → Prop} (C : Cb E X cc own nL rm) (M : Mt y bytes maxL ret na) (MV : MtV y ci) (hlk : Cond.methodLink own index y ∈ Wg) (As rest : List AV) (hna : As.length = na) (hst : st = As.reverse ++ aP o :: rest) (hrest : avlen rest ≤ 8)
    (hfr : rm'.frames + 1 ≤ rm.frames ∧ 8 + (maxL + 11) + rm'.locals ≤ rm.locals) (hf : k + rm'.cells ≤ rm.cells ∧ n + rm'.slots ≤ rm.slots) (k' n' : Nat) (hk' : k + rm'.cells = k') (hn' : n + rm'.slots = n') (d : decode cc pc = .ok (.invokevirtual index, 3))
    (w : CV (Spec E y bytes maxL ret rm') o ci As h (kJ K)) (g : ∀ (x : Int64) (h' : AH), K x h' → Go E X nL k' n' (pc + 3) lv (aJ x :: rest) h') : Go E X nL k n pc lv st h :=
  r_cv (K := fun _ _ => True) C M MV hlk hna hst hrest hfr hf hk' hn' d (w.mono fun v h' hv => by obtain ⟨x, e, q⟩ := hv; subst e; exact g x h' q)
theorem r_csJ {K : Int64 → AH → Prop} (C : Cb E X cc own nL rm) (M : Mt y bytes maxL ret na) (MS : MtS y) (hlk : Cond.methodLink own index y ∈ Wg) (As rest : List AV) (hna : As.length = na) (hst : st = As.reverse ++ rest) (hrest : avlen rest ≤ 8)
    (hfr : rm'.frames + 1 ≤ rm.frames ∧ 8 + (maxL + 11) + rm'.locals ≤ rm.locals) (hf : k + rm'.cells ≤ rm.cells ∧ n + rm'.slots ≤ rm.slots) (k' n' : Nat) (hk' : k + rm'.cells = k') (hn' : n + rm'.slots = n') (d : decode cc pc = .ok (.invokestatic index, 3))
    (w : CS (Spec E y bytes maxL ret rm') As h (kJ K)) (g : ∀ (x : Int64) (h' : AH), K x h' → Go E X nL k' n' (pc + 3) lv (aJ x :: rest) h') : Go E X nL k n pc lv st h :=
  r_cs (K := fun _ _ => True) C M MS hlk hna hst hrest hfr hf hk' hn' d (w.mono fun v h' hv => by obtain ⟨x, e, q⟩ := hv; subst e; exact g x h' q)
theorem r_cvP {K : Option Nat → AH → Prop} (C : Cb E X cc own nL rm) (M : Mt y bytes maxL ret na) (MV : MtV y ci) (hlk : Cond.methodLink own index y ∈ Wg) (As rest : List AV) (hna : As.length = na) (hst : st = As.reverse ++ aP o :: rest) (hrest : avlen rest ≤ 8)
    (hfr : rm'.frames + 1 ≤ rm.frames ∧ 8 + (maxL + 11) + rm'.locals ≤ rm.locals) (hf : k + rm'.cells ≤ rm.cells ∧ n + rm'.slots ≤ rm.slots) (k' n' : Nat) (hk' : k + rm'.cells = k') (hn' : n + rm'.slots = n') (d : decode cc pc = .ok (.invokevirtual index, 3))
    (w : CV (Spec E y bytes maxL ret rm') o ci As h (kP K)) (g : ∀ (x : Option Nat) (h' : AH), K x h' → Go E X nL k' n' (pc + 3) lv (aP x :: rest) h') : Go E X nL k n pc lv st h :=
  r_cv (K := fun _ _ => True) C M MV hlk hna hst hrest hfr hf hk' hn' d (w.mono fun v h' hv => by obtain ⟨x, e, q⟩ := hv; subst e; exact g x h' q)
theorem r_csP {K : Option Nat → AH → Prop} (C : Cb E X cc own nL rm) (M : Mt y bytes maxL ret na) (MS : MtS y) (hlk : Cond.methodLink own index y ∈ Wg) (As rest : List AV) (hna : As.length = na) (hst : st = As.reverse ++ rest) (hrest : avlen rest ≤ 8)
    (hfr : rm'.frames + 1 ≤ rm.frames ∧ 8 + (maxL + 11) + rm'.locals ≤ rm.locals) (hf : k + rm'.cells ≤ rm.cells ∧ n + rm'.slots ≤ rm.slots) (k' n' : Nat) (hk' : k + rm'.cells = k') (hn' : n + rm'.slots = n') (d : decode cc pc = .ok (.invokestatic index, 3))
    (w : CS (Spec E y bytes maxL ret rm') As h (kP K)) (g : ∀ (x : Option Nat) (h' : AH), K x h' → Go E X nL k' n' (pc + 3) lv (aP x :: rest) h') : Go E X nL k n pc lv st h :=
  r_cs (K := fun _ _ => True) C M MS hlk hna hst hrest hfr hf hk' hn' d (w.mono fun v h' hv => by obtain ⟨x, e, q⟩ := hv; subst e; exact g x h' q)
theorem r_cvV {K : AH → Prop} (C : Cb E X cc own nL rm) (M : Mt y bytes maxL ret na) (MV : MtV y ci) (hlk : Cond.methodLink own index y ∈ Wg) (As rest : List AV) (hna : As.length = na) (hst : st = As.reverse ++ aP o :: rest) (hrest : avlen rest ≤ 8)
    (hfr : rm'.frames + 1 ≤ rm.frames ∧ 8 + (maxL + 11) + rm'.locals ≤ rm.locals) (hf : k + rm'.cells ≤ rm.cells ∧ n + rm'.slots ≤ rm.slots) (k' n' : Nat) (hk' : k + rm'.cells = k') (hn' : n + rm'.slots = n') (d : decode cc pc = .ok (.invokevirtual index, 3))
    (w : CV (Spec E y bytes maxL ret rm') o ci As h (kV K)) (g : ∀ (h' : AH), K h' → Go E X nL k' n' (pc + 3) lv (rest) h') : Go E X nL k n pc lv st h :=
  r_cv (K := fun _ _ => True) C M MV hlk hna hst hrest hfr hf hk' hn' d (w.mono fun v h' hv => by obtain ⟨e, q⟩ := hv; subst e; exact g h' q)
theorem r_csV {K : AH → Prop} (C : Cb E X cc own nL rm) (M : Mt y bytes maxL ret na) (MS : MtS y) (hlk : Cond.methodLink own index y ∈ Wg) (As rest : List AV) (hna : As.length = na) (hst : st = As.reverse ++ rest) (hrest : avlen rest ≤ 8)
    (hfr : rm'.frames + 1 ≤ rm.frames ∧ 8 + (maxL + 11) + rm'.locals ≤ rm.locals) (hf : k + rm'.cells ≤ rm.cells ∧ n + rm'.slots ≤ rm.slots) (k' n' : Nat) (hk' : k + rm'.cells = k') (hn' : n + rm'.slots = n') (d : decode cc pc = .ok (.invokestatic index, 3))
    (w : CS (Spec E y bytes maxL ret rm') As h (kV K)) (g : ∀ (h' : AH), K h' → Go E X nL k' n' (pc + 3) lv (rest) h') : Go E X nL k n pc lv st h :=
  r_cs (K := fun _ _ => True) C M MS hlk hna hst hrest hfr hf hk' hn' d (w.mono fun v h' hv => by obtain ⟨e, q⟩ := hv; subst e; exact g h' q)
theorem r_ciV {host : String} {K : AH → Prop} (C : Cb E X cc own nL rm) (M : Mt y bytes maxL none na) (MI : MtI y) (hlk : Cond.methodLink own index y ∈ Wg ∨ Cond.methodLinkNest own index y host ∈ nestW) (As rest : List AV) (hna : As.length = na) (hst : st = As.reverse ++ aP o :: rest) (hrest : avlen rest ≤ 8)
    (hfr : rm'.frames + 1 ≤ rm.frames ∧ 8 + (maxL + 11) + rm'.locals ≤ rm.locals) (hf : k + rm'.cells ≤ rm.cells ∧ n + rm'.slots ≤ rm.slots) (k' n' : Nat) (hk' : k + rm'.cells = k') (hn' : n + rm'.slots = n') (d : decode cc pc = .ok (.invokespecial index, 3)) (ho : o.isSome = true)
    (w : CS (Spec E y bytes maxL none rm') (aP o :: As) h (kV K)) (g : ∀ (h' : AH), K h' → Go E X nL k' n' (pc + 3) lv rest h') : Go E X nL k n pc lv st h :=
  r_ci C M MI hlk hna hst hrest hfr hf hk' hn' d ho (w.mono fun v h' hv => by obtain ⟨e, q⟩ := hv; subst e; exact g h' q)
end CB
