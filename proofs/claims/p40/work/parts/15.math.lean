/-! Math's members, and the two rows of directions -/
section MA
variable {E : EV} {X : AX} {cc : ByteArray} {own : String} {nL : Nat} {rm : Room} {k n pc : Nat} {lv : List (Nat × AV)} {st : List AV} {h : AH} {index : Nat}
theorem r_mmax {x y : Int32} (C : Cb E X cc own nL rm) (hlk : Cond.methodLink own index Lib.Math.max.name ∈ Wg) (hs : Cond.static Lib.Math.max.name ∈ Wg) (hi : Cond.initialized "java/lang/Math" ∈ Wg) (hc : Cond.code Lib.Math.max.name Lib.Math.max.code 2 (some .int) ∈ Wg) (hfr : 1 ≤ rm.frames) (hlo : avlen st + 13 ≤ rm.locals) (hk : k ≤ rm.cells) (hn : n ≤ rm.slots) (d : decode cc pc = .ok (.invokestatic index, 3)) (g : Go E X nL k n (pc + 3) lv (aI (if x < y then y else x) :: st) h) : Go E X nL k n pc lv (aI y :: aI x :: st) h := by
  obtain ⟨p, l, e, R, s, m, args, below, meth, c0, Q⟩ := X
  obtain ⟨hx, hb, hml, hown, hts, hK, hSt, hNW, hbs, rfl⟩ := C
  intro ls H locs hl hR hS
  exact va_mmax hx hb (by rw [hml]; exact hl.1.symm) hown (hts _ hlk) (hts _ hs) (hts _ hi) (hts _ hc) hfr (by rw [sum_tr]; exact hlo) hk hn d (g ls H locs hl hR hS)
theorem r_mmin {x y : Int32} (C : Cb E X cc own nL rm) (hlk : Cond.methodLink own index Lib.Math.min.name ∈ Wg) (hs : Cond.static Lib.Math.min.name ∈ Wg) (hi : Cond.initialized "java/lang/Math" ∈ Wg) (hc : Cond.code Lib.Math.min.name Lib.Math.min.code 2 (some .int) ∈ Wg) (hfr : 1 ≤ rm.frames) (hlo : avlen st + 13 ≤ rm.locals) (hk : k ≤ rm.cells) (hn : n ≤ rm.slots) (d : decode cc pc = .ok (.invokestatic index, 3)) (g : Go E X nL k n (pc + 3) lv (aI (if y < x then y else x) :: st) h) : Go E X nL k n pc lv (aI y :: aI x :: st) h := by
  obtain ⟨p, l, e, R, s, m, args, below, meth, c0, Q⟩ := X
  obtain ⟨hx, hb, hml, hown, hts, hK, hSt, hNW, hbs, rfl⟩ := C
  intro ls H locs hl hR hS
  exact va_mmin hx hb (by rw [hml]; exact hl.1.symm) hown (hts _ hlk) (hts _ hs) (hts _ hi) (hts _ hc) hfr (by rw [sum_tr]; exact hlo) hk hn d (g ls H locs hl hR hS)
theorem r_mmaxL {x y : Int64} (C : Cb E X cc own nL rm) (hlk : Cond.methodLink own index Lib.MathLoose.max_long.x ∈ Wg) (hs : Cond.static Lib.MathLoose.max_long.x ∈ Wg) (hi : Cond.initialized "java/lang/Math" ∈ Wg) (hc : Cond.code Lib.MathLoose.max_long.x Lib.MathLoose.max_long.code 4 (some .long) ∈ Wg) (hfr : 1 ≤ rm.frames) (hlo : avlen st + 15 ≤ rm.locals) (hk : k ≤ rm.cells) (hn : n ≤ rm.slots) (d : decode cc pc = .ok (.invokestatic index, 3)) (g : Go E X nL k n (pc + 3) lv (aJ (if y < x then x else y) :: st) h) : Go E X nL k n pc lv (aJ y :: aJ x :: st) h := by
  obtain ⟨p, l, e, R, s, m, args, below, meth, c0, Q⟩ := X
  obtain ⟨hx, hb, hml, hown, hts, hK, hSt, hNW, hbs, rfl⟩ := C
  intro ls H locs hl hR hS
  exact va_mmax_long hx hb (by rw [hml]; exact hl.1.symm) hown (hts _ hlk) (hts _ hs) (hts _ hi) (hts _ hc) hfr (by rw [sum_tr]; exact hlo) hk hn d (g ls H locs hl hR hS)
/-- a read of the length, of a place, of one of the two static arrays: the pair 'getstatic; arraylength', the three 'getstatic; iload_0; iaload' -/
theorem r_stlen {f : String} {z : Nat → Int32} (C : Cb E X cc own nL rm) (hf : Sta1 E f z X.2.2.2.2.1 X.2.2.2.2.1.heap) (hw : Cond.fieldLink own index RX10 f "[I" ∈ Wg) (d1 : decode cc pc = .ok (.getstatic index, 3)) (d2 : decode cc (pc + 3) = .ok (.arraylength, 1)) (g : Go E X nL k n (pc + 4) lv (aI 8 :: st) h) : Go E X nL k n pc lv st h := by
  obtain ⟨p, l, e, R, s, m, args, below, meth, c0, Q⟩ := X
  obtain ⟨hx, hb, hml, hown, hts, hK, hSt, hNW, hbs, rfl⟩ := C
  intro ls H locs hl hR hS
  obtain ⟨b, hb1, hZ, hX⟩ := hf
  refine va_gets hx hb hZ hS hown (hts _ hw) (fun x h => h) d1 ?_
  obtain ⟨scr, s1, s2, s3, s4, s5⟩ := hX.kept (hS.2.1 b (by omega) (by omega))
  exact W.alen (n := 8) hx hb s1 s2 (by rw [s4]; rfl) rfl rfl d2 (g ls H locs hl hR hS)
theorem r_stald {f : String} {z : Nat → Int32} {x : Int32} {q : Nat} (C : Cb E X cc own nL rm) (hf : Sta1 E f z X.2.2.2.2.1 X.2.2.2.2.1.heap) (hw : Cond.fieldLink own index RX10 f "[I" ∈ Wg) (d1 : decode cc pc = .ok (.getstatic index, 3)) (d2 : decode cc (pc + 3) = .ok (.iload_n 0, 1)) (d3 : decode cc (pc + 4) = .ok (.iaload, 1)) (hq : lv[q]? = some (0, aI x)) (h0 : ¬ x < 0) (h8 : x.toNatClampNeg < 8) (g : Go E X nL k n (pc + 5) lv (aI (z x.toNatClampNeg) :: st) h) : Go E X nL k n pc lv st h := by
  obtain ⟨p, l, e, R, s, m, args, below, meth, c0, Q⟩ := X
  obtain ⟨hx, hb, hml, hown, hts, hK, hSt, hNW, hbs, rfl⟩ := C
  intro ls H locs hl hR hS
  obtain ⟨b, hb1, hZ, hX⟩ := hf
  refine va_gets hx hb hZ hS hown (hts _ hw) (fun x h => h) d1 ?_
  obtain ⟨scr, s1, s2, s3, s4, s5⟩ := hX.kept (hS.2.1 b (by omega) (by omega))
  refine lv_iload_n hx hb d2 rfl (lv_at hl q ((ex_at hq).trans rfl)) ?_
  exact W.iald (v := .int (z x.toNatClampNeg)) hx hb s1 s2 s3 (by rw [s4]; exact in32 h0 h8) (s5 _ h8) rfl rfl d3 (g ls H locs hl hR hS)
theorem cb_sta {f : EV → State → Prop} (C : Cb E X cc own nL rm) : Sta E X.2.2.2.2.1 X.2.2.2.2.1.heap := by
  obtain ⟨p, l, e, R, s, m, args, below, meth, c0, Q⟩ := X
  exact C.2.2.2.2.2.2.1
end MA
