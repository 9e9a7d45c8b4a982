theorem r_iadd {E : EV} {X : AX} {cc : ByteArray} {own : String} {nL : Nat} {rm : Room} {k n pc : Nat} {lv : List (Nat × AV)} {st : List AV} {h : AH} {x y : Int32} (C : Cb E X cc own nL rm) (d : decode cc pc = .ok (.iadd, 1))  (g : Go E X nL k n (pc + 1) lv (aI (x + y) :: st) h) : Go E X nL k n pc lv (aI y :: aI x :: st) h := by
  obtain ⟨p, l, e, R, s, m, args, below, meth, c, Q⟩ := X
  obtain ⟨hx, hb, hml, hown, hts, hK, hSt, hNW, hbs, rfl⟩ := C
  intro ls H locs hl hR hS
  exact lv_iadd hx hb d (g ls H locs hl hR hS)
theorem r_isub {E : EV} {X : AX} {cc : ByteArray} {own : String} {nL : Nat} {rm : Room} {k n pc : Nat} {lv : List (Nat × AV)} {st : List AV} {h : AH} {x y : Int32} (C : Cb E X cc own nL rm) (d : decode cc pc = .ok (.isub, 1))  (g : Go E X nL k n (pc + 1) lv (aI (x - y) :: st) h) : Go E X nL k n pc lv (aI y :: aI x :: st) h := by
  obtain ⟨p, l, e, R, s, m, args, below, meth, c, Q⟩ := X
  obtain ⟨hx, hb, hml, hown, hts, hK, hSt, hNW, hbs, rfl⟩ := C
  intro ls H locs hl hR hS
  exact lv_isub hx hb d (g ls H locs hl hR hS)
theorem r_imul {E : EV} {X : AX} {cc : ByteArray} {own : String} {nL : Nat} {rm : Room} {k n pc : Nat} {lv : List (Nat × AV)} {st : List AV} {h : AH} {x y : Int32} (C : Cb E X cc own nL rm) (d : decode cc pc = .ok (.imul, 1))  (g : Go E X nL k n (pc + 1) lv (aI (x * y) :: st) h) : Go E X nL k n pc lv (aI y :: aI x :: st) h := by
  obtain ⟨p, l, e, R, s, m, args, below, meth, c, Q⟩ := X
  obtain ⟨hx, hb, hml, hown, hts, hK, hSt, hNW, hbs, rfl⟩ := C
  intro ls H locs hl hR hS
  exact lv_imul hx hb d (g ls H locs hl hR hS)
theorem r_iand {E : EV} {X : AX} {cc : ByteArray} {own : String} {nL : Nat} {rm : Room} {k n pc : Nat} {lv : List (Nat × AV)} {st : List AV} {h : AH} {x y : Int32} (C : Cb E X cc own nL rm) (d : decode cc pc = .ok (.iand, 1))  (g : Go E X nL k n (pc + 1) lv (aI (x &&& y) :: st) h) : Go E X nL k n pc lv (aI y :: aI x :: st) h := by
  obtain ⟨p, l, e, R, s, m, args, below, meth, c, Q⟩ := X
  obtain ⟨hx, hb, hml, hown, hts, hK, hSt, hNW, hbs, rfl⟩ := C
  intro ls H locs hl hR hS
  exact lv_iand hx hb d (g ls H locs hl hR hS)
theorem r_ior {E : EV} {X : AX} {cc : ByteArray} {own : String} {nL : Nat} {rm : Room} {k n pc : Nat} {lv : List (Nat × AV)} {st : List AV} {h : AH} {x y : Int32} (C : Cb E X cc own nL rm) (d : decode cc pc = .ok (.ior, 1))  (g : Go E X nL k n (pc + 1) lv (aI (x ||| y) :: st) h) : Go E X nL k n pc lv (aI y :: aI x :: st) h := by
  obtain ⟨p, l, e, R, s, m, args, below, meth, c, Q⟩ := X
  obtain ⟨hx, hb, hml, hown, hts, hK, hSt, hNW, hbs, rfl⟩ := C
  intro ls H locs hl hR hS
  exact lv_ior hx hb d (g ls H locs hl hR hS)
theorem r_ixor {E : EV} {X : AX} {cc : ByteArray} {own : String} {nL : Nat} {rm : Room} {k n pc : Nat} {lv : List (Nat × AV)} {st : List AV} {h : AH} {x y : Int32} (C : Cb E X cc own nL rm) (d : decode cc pc = .ok (.ixor, 1))  (g : Go E X nL k n (pc + 1) lv (aI (x ^^^ y) :: st) h) : Go E X nL k n pc lv (aI y :: aI x :: st) h := by
  obtain ⟨p, l, e, R, s, m, args, below, meth, c, Q⟩ := X
  obtain ⟨hx, hb, hml, hown, hts, hK, hSt, hNW, hbs, rfl⟩ := C
  intro ls H locs hl hR hS
  exact lv_ixor hx hb d (g ls H locs hl hR hS)
theorem r_ladd {E : EV} {X : AX} {cc : ByteArray} {own : String} {nL : Nat} {rm : Room} {k n pc : Nat} {lv : List (Nat × AV)} {st : List AV} {h : AH} {x y : Int64} (C : Cb E X cc own nL rm) (d : decode cc pc = .ok (.ladd, 1))  (g : Go E X nL k n (pc + 1) lv (aJ (x + y) :: st) h) : Go E X nL k n pc lv (aJ y :: aJ x :: st) h := by
  obtain ⟨p, l, e, R, s, m, args, below, meth, c, Q⟩ := X
  obtain ⟨hx, hb, hml, hown, hts, hK, hSt, hNW, hbs, rfl⟩ := C
  intro ls H locs hl hR hS
  exact lv_ladd hx hb d (g ls H locs hl hR hS)
theorem r_lsub {E : EV} {X : AX} {cc : ByteArray} {own : String} {nL : Nat} {rm : Room} {k n pc : Nat} {lv : List (Nat × AV)} {st : List AV} {h : AH} {x y : Int64} (C : Cb E X cc own nL rm) (d : decode cc pc = .ok (.lsub, 1))  (g : Go E X nL k n (pc + 1) lv (aJ (x - y) :: st) h) : Go E X nL k n pc lv (aJ y :: aJ x :: st) h := by
  obtain ⟨p, l, e, R, s, m, args, below, meth, c, Q⟩ := X
  obtain ⟨hx, hb, hml, hown, hts, hK, hSt, hNW, hbs, rfl⟩ := C
  intro ls H locs hl hR hS
  exact lv_lsub hx hb d (g ls H locs hl hR hS)
theorem r_lmul {E : EV} {X : AX} {cc : ByteArray} {own : String} {nL : Nat} {rm : Room} {k n pc : Nat} {lv : List (Nat × AV)} {st : List AV} {h : AH} {x y : Int64} (C : Cb E X cc own nL rm) (d : decode cc pc = .ok (.lmul, 1))  (g : Go E X nL k n (pc + 1) lv (aJ (x * y) :: st) h) : Go E X nL k n pc lv (aJ y :: aJ x :: st) h := by
  obtain ⟨p, l, e, R, s, m, args, below, meth, c, Q⟩ := X
  obtain ⟨hx, hb, hml, hown, hts, hK, hSt, hNW, hbs, rfl⟩ := C
  intro ls H locs hl hR hS
  exact lv_lmul hx hb d (g ls H locs hl hR hS)
theorem r_ishl {E : EV} {X : AX} {cc : ByteArray} {own : String} {nL : Nat} {rm : Room} {k n pc : Nat} {lv : List (Nat × AV)} {st : List AV} {h : AH} {x y : Int32} (C : Cb E X cc own nL rm) (d : decode cc pc = .ok (.ishl, 1))  (g : Go E X nL k n (pc + 1) lv (aI (x <<< (y &&& 31)) :: st) h) : Go E X nL k n pc lv (aI y :: aI x :: st) h := by
  obtain ⟨p, l, e, R, s, m, args, below, meth, c, Q⟩ := X
  obtain ⟨hx, hb, hml, hown, hts, hK, hSt, hNW, hbs, rfl⟩ := C
  intro ls H locs hl hR hS
  exact lv_ishl hx hb d (g ls H locs hl hR hS)
theorem r_ishr {E : EV} {X : AX} {cc : ByteArray} {own : String} {nL : Nat} {rm : Room} {k n pc : Nat} {lv : List (Nat × AV)} {st : List AV} {h : AH} {x y : Int32} (C : Cb E X cc own nL rm) (d : decode cc pc = .ok (.ishr, 1))  (g : Go E X nL k n (pc + 1) lv (aI (x >>> (y &&& 31)) :: st) h) : Go E X nL k n pc lv (aI y :: aI x :: st) h := by
  obtain ⟨p, l, e, R, s, m, args, below, meth, c, Q⟩ := X
  obtain ⟨hx, hb, hml, hown, hts, hK, hSt, hNW, hbs, rfl⟩ := C
  intro ls H locs hl hR hS
  exact lv_ishr hx hb d (g ls H locs hl hR hS)
theorem r_ineg {E : EV} {X : AX} {cc : ByteArray} {own : String} {nL : Nat} {rm : Room} {k n pc : Nat} {lv : List (Nat × AV)} {st : List AV} {h : AH} {x : Int32} (C : Cb E X cc own nL rm) (d : decode cc pc = .ok (.ineg, 1))  (g : Go E X nL k n (pc + 1) lv (aI (-x) :: st) h) : Go E X nL k n pc lv (aI x :: st) h := by
  obtain ⟨p, l, e, R, s, m, args, below, meth, c, Q⟩ := X
  obtain ⟨hx, hb, hml, hown, hts, hK, hSt, hNW, hbs, rfl⟩ := C
  intro ls H locs hl hR hS
  exact lv_ineg hx hb d (g ls H locs hl hR hS)
theorem r_lneg {E : EV} {X : AX} {cc : ByteArray} {own : String} {nL : Nat} {rm : Room} {k n pc : Nat} {lv : List (Nat × AV)} {st : List AV} {h : AH} {x : Int64} (C : Cb E X cc own nL rm) (d : decode cc pc = .ok (.lneg, 1))  (g : Go E X nL k n (pc + 1) lv (aJ (-x) :: st) h) : Go E X nL k n pc lv (aJ x :: st) h := by
  obtain ⟨p, l, e, R, s, m, args, below, meth, c, Q⟩ := X
  obtain ⟨hx, hb, hml, hown, hts, hK, hSt, hNW, hbs, rfl⟩ := C
  intro ls H locs hl hR hS
  exact lv_lneg hx hb d (g ls H locs hl hR hS)
theorem r_i2l {E : EV} {X : AX} {cc : ByteArray} {own : String} {nL : Nat} {rm : Room} {k n pc : Nat} {lv : List (Nat × AV)} {st : List AV} {h : AH} {x : Int32} (C : Cb E X cc own nL rm) (d : decode cc pc = .ok (.i2l, 1))  (g : Go E X nL k n (pc + 1) lv (aJ x.toInt64 :: st) h) : Go E X nL k n pc lv (aI x :: st) h := by
  obtain ⟨p, l, e, R, s, m, args, below, meth, c, Q⟩ := X
  obtain ⟨hx, hb, hml, hown, hts, hK, hSt, hNW, hbs, rfl⟩ := C
  intro ls H locs hl hR hS
  exact lv_i2l hx hb d rfl (g ls H locs hl hR hS)
theorem r_l2i {E : EV} {X : AX} {cc : ByteArray} {own : String} {nL : Nat} {rm : Room} {k n pc : Nat} {lv : List (Nat × AV)} {st : List AV} {h : AH} {x : Int64} (C : Cb E X cc own nL rm) (d : decode cc pc = .ok (.l2i, 1))  (g : Go E X nL k n (pc + 1) lv (aI x.toInt32 :: st) h) : Go E X nL k n pc lv (aJ x :: st) h := by
  obtain ⟨p, l, e, R, s, m, args, below, meth, c, Q⟩ := X
  obtain ⟨hx, hb, hml, hown, hts, hK, hSt, hNW, hbs, rfl⟩ := C
  intro ls H locs hl hR hS
  exact lv_l2i hx hb d rfl (g ls H locs hl hR hS)
theorem r_i2b {E : EV} {X : AX} {cc : ByteArray} {own : String} {nL : Nat} {rm : Room} {k n pc : Nat} {lv : List (Nat × AV)} {st : List AV} {h : AH} {x : Int32} (C : Cb E X cc own nL rm) (d : decode cc pc = .ok (.i2b, 1))  (g : Go E X nL k n (pc + 1) lv (aI x.toInt8.toInt32 :: st) h) : Go E X nL k n pc lv (aI x :: st) h := by
  obtain ⟨p, l, e, R, s, m, args, below, meth, c, Q⟩ := X
  obtain ⟨hx, hb, hml, hown, hts, hK, hSt, hNW, hbs, rfl⟩ := C
  intro ls H locs hl hR hS
  exact lv_i2b hx hb d rfl (g ls H locs hl hR hS)
theorem r_lcmp {E : EV} {X : AX} {cc : ByteArray} {own : String} {nL : Nat} {rm : Room} {k n pc : Nat} {lv : List (Nat × AV)} {st : List AV} {h : AH} {x y : Int64} (C : Cb E X cc own nL rm) (d : decode cc pc = .ok (.lcmp, 1))  (g : Go E X nL k n (pc + 1) lv (aI (lg_cmp x y) :: st) h) : Go E X nL k n pc lv (aJ y :: aJ x :: st) h := by
  obtain ⟨p, l, e, R, s, m, args, below, meth, c, Q⟩ := X
  obtain ⟨hx, hb, hml, hown, hts, hK, hSt, hNW, hbs, rfl⟩ := C
  intro ls H locs hl hR hS
  exact W.lcmp hx hb d (g ls H locs hl hR hS)
theorem r_irem {E : EV} {X : AX} {cc : ByteArray} {own : String} {nL : Nat} {rm : Room} {k n pc : Nat} {lv : List (Nat × AV)} {st : List AV} {h : AH} {x y : Int32} (C : Cb E X cc own nL rm) (d : decode cc pc = .ok (.irem, 1)) (hy : ¬ y = 0) (g : Go E X nL k n (pc + 1) lv (aI (x - x / y * y) :: st) h) : Go E X nL k n pc lv (aI y :: aI x :: st) h := by
  obtain ⟨p, l, e, R, s, m, args, below, meth, c, Q⟩ := X
  obtain ⟨hx, hb, hml, hown, hts, hK, hSt, hNW, hbs, rfl⟩ := C
  intro ls H locs hl hR hS
  exact lv_irem hx hb d hy (g ls H locs hl hR hS)
theorem r_lrem {E : EV} {X : AX} {cc : ByteArray} {own : String} {nL : Nat} {rm : Room} {k n pc : Nat} {lv : List (Nat × AV)} {st : List AV} {h : AH} {x y : Int64} (C : Cb E X cc own nL rm) (d : decode cc pc = .ok (.lrem, 1)) (hy : ¬ y = 0) (g : Go E X nL k n (pc + 1) lv (aJ (x - x / y * y) :: st) h) : Go E X nL k n pc lv (aJ y :: aJ x :: st) h := by
  obtain ⟨p, l, e, R, s, m, args, below, meth, c, Q⟩ := X
  obtain ⟨hx, hb, hml, hown, hts, hK, hSt, hNW, hbs, rfl⟩ := C
  intro ls H locs hl hR hS
  exact lv_lrem hx hb d hy (g ls H locs hl hR hS)
theorem r_ldiv {E : EV} {X : AX} {cc : ByteArray} {own : String} {nL : Nat} {rm : Room} {k n pc : Nat} {lv : List (Nat × AV)} {st : List AV} {h : AH} {x y : Int64} (C : Cb E X cc own nL rm) (d : decode cc pc = .ok (.ldiv, 1)) (hy : ¬ y = 0) (g : Go E X nL k n (pc + 1) lv (aJ (x / y) :: st) h) : Go E X nL k n pc lv (aJ y :: aJ x :: st) h := by
  obtain ⟨p, l, e, R, s, m, args, below, meth, c, Q⟩ := X
  obtain ⟨hx, hb, hml, hown, hts, hK, hSt, hNW, hbs, rfl⟩ := C
  intro ls H locs hl hR hS
  exact lv_ldiv hx hb d hy (g ls H locs hl hR hS)
theorem r_iconst {E : EV} {X : AX} {cc : ByteArray} {own : String} {nL : Nat} {rm : Room} {k n pc : Nat} {lv : List (Nat × AV)} {st : List AV} {h : AH} {i : Int} {v : Int32} (C : Cb E X cc own nL rm) (d : decode cc pc = .ok (.iconst i, 1)) (hv : Int32.ofInt i = v) (g : Go E X nL k n (pc + 1) lv (aI v :: st) h) : Go E X nL k n pc lv st h := by
  obtain ⟨p, l, e, R, s, m, args, below, meth, c, Q⟩ := X
  obtain ⟨hx, hb, hml, hown, hts, hK, hSt, hNW, hbs, rfl⟩ := C
  intro ls H locs hl hR hS
  exact lv_iconst hx hb d hv (g ls H locs hl hR hS)
theorem r_bipush {E : EV} {X : AX} {cc : ByteArray} {own : String} {nL : Nat} {rm : Room} {k n pc : Nat} {lv : List (Nat × AV)} {st : List AV} {h : AH} {i : Int} {v : Int32} (C : Cb E X cc own nL rm) (d : decode cc pc = .ok (.bipush i, 2)) (hv : (Int8.ofInt i).toInt32 = v) (g : Go E X nL k n (pc + 2) lv (aI v :: st) h) : Go E X nL k n pc lv st h := by
  obtain ⟨p, l, e, R, s, m, args, below, meth, c, Q⟩ := X
  obtain ⟨hx, hb, hml, hown, hts, hK, hSt, hNW, hbs, rfl⟩ := C
  intro ls H locs hl hR hS
  exact lv_bipush hx hb d hv (g ls H locs hl hR hS)
theorem r_sipush {E : EV} {X : AX} {cc : ByteArray} {own : String} {nL : Nat} {rm : Room} {k n pc : Nat} {lv : List (Nat × AV)} {st : List AV} {h : AH} {i : Int} {v : Int32} (C : Cb E X cc own nL rm) (d : decode cc pc = .ok (.sipush i, 3)) (hv : (Int16.ofInt i).toInt32 = v) (g : Go E X nL k n (pc + 3) lv (aI v :: st) h) : Go E X nL k n pc lv st h := by
  obtain ⟨p, l, e, R, s, m, args, below, meth, c, Q⟩ := X
  obtain ⟨hx, hb, hml, hown, hts, hK, hSt, hNW, hbs, rfl⟩ := C
  intro ls H locs hl hR hS
  exact lv_sipush hx hb d hv (g ls H locs hl hR hS)
theorem r_lconst {E : EV} {X : AX} {cc : ByteArray} {own : String} {nL : Nat} {rm : Room} {k n pc : Nat} {lv : List (Nat × AV)} {st : List AV} {h : AH} {i : Fin 2} {v : Int64} (C : Cb E X cc own nL rm) (d : decode cc pc = .ok (.lconst i, 1)) (hv : Int64.ofNat (i : Nat) = v) (g : Go E X nL k n (pc + 1) lv (aJ v :: st) h) : Go E X nL k n pc lv st h := by
  obtain ⟨p, l, e, R, s, m, args, below, meth, c, Q⟩ := X
  obtain ⟨hx, hb, hml, hown, hts, hK, hSt, hNW, hbs, rfl⟩ := C
  intro ls H locs hl hR hS
  exact lv_lconst hx hb d hv (g ls H locs hl hR hS)
theorem r_ldc {E : EV} {X : AX} {cc : ByteArray} {own : String} {nL : Nat} {rm : Room} {k n pc : Nat} {lv : List (Nat × AV)} {st : List AV} {h : AH} {i : Nat} {v : Int32} (C : Cb E X cc own nL rm) (d : decode cc pc = .ok (.ldc i, 2)) (hw : Cond.constant own i v ∈ Wg) (g : Go E X nL k n (pc + 2) lv (aI v :: st) h) : Go E X nL k n pc lv st h := by
  obtain ⟨p, l, e, R, s, m, args, below, meth, c, Q⟩ := X
  obtain ⟨hx, hb, hml, hown, hts, hK, hSt, hNW, hbs, rfl⟩ := C
  intro ls H locs hl hR hS
  exact lv_ldc hx hb hown (hts _ hw) d (g ls H locs hl hR hS)
theorem r_ldc_w {E : EV} {X : AX} {cc : ByteArray} {own : String} {nL : Nat} {rm : Room} {k n pc : Nat} {lv : List (Nat × AV)} {st : List AV} {h : AH} {i : Nat} {v : Int32} (C : Cb E X cc own nL rm) (d : decode cc pc = .ok (.ldc_w i, 3)) (hw : Cond.constant own i v ∈ Wg) (g : Go E X nL k n (pc + 3) lv (aI v :: st) h) : Go E X nL k n pc lv st h := by
  obtain ⟨p, l, e, R, s, m, args, below, meth, c, Q⟩ := X
  obtain ⟨hx, hb, hml, hown, hts, hK, hSt, hNW, hbs, rfl⟩ := C
  intro ls H locs hl hR hS
  exact lv_ldcw hx hb hown (hts _ hw) d (g ls H locs hl hR hS)
theorem r_ldc2 {E : EV} {X : AX} {cc : ByteArray} {own : String} {nL : Nat} {rm : Room} {k n pc : Nat} {lv : List (Nat × AV)} {st : List AV} {h : AH} {i : Nat} {v : Int64} (C : Cb E X cc own nL rm) (d : decode cc pc = .ok (.ldc2_w i, 3)) (hw : Cond.constantLong own i v ∈ Wg) (g : Go E X nL k n (pc + 3) lv (aJ v :: st) h) : Go E X nL k n pc lv st h := by
  obtain ⟨p, l, e, R, s, m, args, below, meth, c, Q⟩ := X
  obtain ⟨hx, hb, hml, hown, hts, hK, hSt, hNW, hbs, rfl⟩ := C
  intro ls H locs hl hR hS
  exact lv_ldc2 hx hb hown (hts _ hw) d (g ls H locs hl hR hS)
theorem r_null {E : EV} {X : AX} {cc : ByteArray} {own : String} {nL : Nat} {rm : Room} {k n pc : Nat} {lv : List (Nat × AV)} {st : List AV} {h : AH}  (C : Cb E X cc own nL rm) (d : decode cc pc = .ok (.aconst_null, 1))  (g : Go E X nL k n (pc + 1) lv (aP none :: st) h) : Go E X nL k n pc lv st h := by
  obtain ⟨p, l, e, R, s, m, args, below, meth, c, Q⟩ := X
  obtain ⟨hx, hb, hml, hown, hts, hK, hSt, hNW, hbs, rfl⟩ := C
  intro ls H locs hl hR hS
  exact lv_null hx hb d (g ls H locs hl hR hS)
theorem r_goto {E : EV} {X : AX} {cc : ByteArray} {own : String} {nL : Nat} {rm : Room} {k n pc : Nat} {lv : List (Nat × AV)} {st : List AV} {h : AH} {off : Int} {tgt : Nat} (C : Cb E X cc own nL rm) (d : decode cc pc = .ok (.goto off, 3)) (ht : (pc : Int) + off = (tgt : Int)) (g : Go E X nL k n tgt lv st h) : Go E X nL k n pc lv st h := by
  obtain ⟨p, l, e, R, s, m, args, below, meth, c, Q⟩ := X
  obtain ⟨hx, hb, hml, hown, hts, hK, hSt, hNW, hbs, rfl⟩ := C
  intro ls H locs hl hR hS
  exact lv_goto hx hb d ht (g ls H locs hl hR hS)
theorem r_dup {E : EV} {X : AX} {cc : ByteArray} {own : String} {nL : Nat} {rm : Room} {k n pc : Nat} {lv : List (Nat × AV)} {st : List AV} {h : AH} {v : AV} (C : Cb E X cc own nL rm) (d : decode cc pc = .ok (.dup, 1)) (hv : cat v = 1) (g : Go E X nL k n (pc + 1) lv (v :: v :: st) h) : Go E X nL k n pc lv (v :: st) h := by
  obtain ⟨p, l, e, R, s, m, args, below, meth, c, Q⟩ := X
  obtain ⟨hx, hb, hml, hown, hts, hK, hSt, hNW, hbs, rfl⟩ := C
  intro ls H locs hl hR hS
  exact lv_dup hx hb d (by rw [toV_cat]; exact hv) (g ls H locs hl hR hS)
theorem r_pop {E : EV} {X : AX} {cc : ByteArray} {own : String} {nL : Nat} {rm : Room} {k n pc : Nat} {lv : List (Nat × AV)} {st : List AV} {h : AH} {v : AV} (C : Cb E X cc own nL rm) (d : decode cc pc = .ok (.pop, 1)) (hv : cat v = 1) (g : Go E X nL k n (pc + 1) lv st h) : Go E X nL k n pc lv (v :: st) h := by
  obtain ⟨p, l, e, R, s, m, args, below, meth, c, Q⟩ := X
  obtain ⟨hx, hb, hml, hown, hts, hK, hSt, hNW, hbs, rfl⟩ := C
  intro ls H locs hl hR hS
  exact lv_pop hx hb d (by rw [toV_cat]; exact hv) (g ls H locs hl hR hS)
theorem r_dup2 {E : EV} {X : AX} {cc : ByteArray} {own : String} {nL : Nat} {rm : Room} {k n pc : Nat} {lv : List (Nat × AV)} {st : List AV} {h : AH} {v w : AV} (C : Cb E X cc own nL rm) (d : decode cc pc = .ok (.dup2, 1)) (hv : cat v = 1) (hw : cat w = 1) (g : Go E X nL k n (pc + 1) lv (v :: w :: v :: w :: st) h) : Go E X nL k n pc lv (v :: w :: st) h := by
  obtain ⟨p, l, e, R, s, m, args, below, meth, c, Q⟩ := X
  obtain ⟨hx, hb, hml, hown, hts, hK, hSt, hNW, hbs, rfl⟩ := C
  intro ls H locs hl hR hS
  exact lv_dup2_11 hx hb d (by rw [toV_cat]; first | exact hv | exact hw) (by rw [toV_cat]; first | exact hw | exact hv) (g ls H locs hl hR hS)
theorem r_iload_n {E : EV} {X : AX} {cc : ByteArray} {own : String} {nL : Nat} {rm : Room} {k n pc : Nat} {lv : List (Nat × AV)} {st : List AV} {h : AH} {i : Nat} {kk : Fin 4} {x : Int32} (C : Cb E X cc own nL rm) (d : decode cc pc = .ok (.iload_n kk, 1)) (hi : (kk : Nat) = i) (q : Nat) (hq : lv[q]? = some (i, aI x)) (g : Go E X nL k n (pc + 1) lv (aI x :: st) h) : Go E X nL k n pc lv st h := by
  obtain ⟨p, l, e, R, s, m, args, below, meth, c, Q⟩ := X
  obtain ⟨hx, hb, hml, hown, hts, hK, hSt, hNW, hbs, rfl⟩ := C
  intro ls H locs hl hR hS
  exact lv_iload_n hx hb d hi (lv_at hl q ((ex_at hq).trans rfl)) (g ls H locs hl hR hS)
theorem r_iload {E : EV} {X : AX} {cc : ByteArray} {own : String} {nL : Nat} {rm : Room} {k n pc : Nat} {lv : List (Nat × AV)} {st : List AV} {h : AH} {i : Nat} {x : Int32} (C : Cb E X cc own nL rm) (d : decode cc pc = .ok (.iload i, 2)) (q : Nat) (hq : lv[q]? = some (i, aI x)) (g : Go E X nL k n (pc + 2) lv (aI x :: st) h) : Go E X nL k n pc lv st h := by
  obtain ⟨p, l, e, R, s, m, args, below, meth, c, Q⟩ := X
  obtain ⟨hx, hb, hml, hown, hts, hK, hSt, hNW, hbs, rfl⟩ := C
  intro ls H locs hl hR hS
  exact lv_iload hx hb d (lv_at hl q ((ex_at hq).trans rfl)) (g ls H locs hl hR hS)
theorem r_lload_n {E : EV} {X : AX} {cc : ByteArray} {own : String} {nL : Nat} {rm : Room} {k n pc : Nat} {lv : List (Nat × AV)} {st : List AV} {h : AH} {i : Nat} {kk : Fin 4} {x : Int64} (C : Cb E X cc own nL rm) (d : decode cc pc = .ok (.lload_n kk, 1)) (hi : (kk : Nat) = i) (q : Nat) (hq : lv[q]? = some (i, aJ x)) (g : Go E X nL k n (pc + 1) lv (aJ x :: st) h) : Go E X nL k n pc lv st h := by
  obtain ⟨p, l, e, R, s, m, args, below, meth, c, Q⟩ := X
  obtain ⟨hx, hb, hml, hown, hts, hK, hSt, hNW, hbs, rfl⟩ := C
  intro ls H locs hl hR hS
  exact lv_lload_n hx hb d hi (lv_at hl q ((ex_at hq).trans rfl)) (g ls H locs hl hR hS)
theorem r_lload {E : EV} {X : AX} {cc : ByteArray} {own : String} {nL : Nat} {rm : Room} {k n pc : Nat} {lv : List (Nat × AV)} {st : List AV} {h : AH} {i : Nat} {x : Int64} (C : Cb E X cc own nL rm) (d : decode cc pc = .ok (.lload i, 2)) (q : Nat) (hq : lv[q]? = some (i, aJ x)) (g : Go E X nL k n (pc + 2) lv (aJ x :: st) h) : Go E X nL k n pc lv st h := by
  obtain ⟨p, l, e, R, s, m, args, below, meth, c, Q⟩ := X
  obtain ⟨hx, hb, hml, hown, hts, hK, hSt, hNW, hbs, rfl⟩ := C
  intro ls H locs hl hR hS
  exact lv_lload hx hb d (lv_at hl q ((ex_at hq).trans rfl)) (g ls H locs hl hR hS)
theorem r_aload_n {E : EV} {X : AX} {cc : ByteArray} {own : String} {nL : Nat} {rm : Room} {k n pc : Nat} {lv : List (Nat × AV)} {st : List AV} {h : AH} {i : Nat} {kk : Fin 4} {x : Option Nat} (C : Cb E X cc own nL rm) (d : decode cc pc = .ok (.aload_n kk, 1)) (hi : (kk : Nat) = i) (q : Nat) (hq : lv[q]? = some (i, aP x)) (g : Go E X nL k n (pc + 1) lv (aP x :: st) h) : Go E X nL k n pc lv st h := by
  obtain ⟨p, l, e, R, s, m, args, below, meth, c, Q⟩ := X
  obtain ⟨hx, hb, hml, hown, hts, hK, hSt, hNW, hbs, rfl⟩ := C
  intro ls H locs hl hR hS
  have hq2 : (lv.map (trp E) ++ exV E args)[q]? = some (i, toV E (aP x)) := (ex_at hq).trans rfl
  have g2 := g ls H locs hl hR hS
  cases x with
  | none => exact lv_aload_nN hx hb d hi (lv_at hl q hq2) g2
  | some a => exact lv_aload_n hx hb d hi (lv_at hl q hq2) g2
theorem r_aload {E : EV} {X : AX} {cc : ByteArray} {own : String} {nL : Nat} {rm : Room} {k n pc : Nat} {lv : List (Nat × AV)} {st : List AV} {h : AH} {i : Nat} {x : Option Nat} (C : Cb E X cc own nL rm) (d : decode cc pc = .ok (.aload i, 2))  (q : Nat) (hq : lv[q]? = some (i, aP x)) (g : Go E X nL k n (pc + 2) lv (aP x :: st) h) : Go E X nL k n pc lv st h := by
  obtain ⟨p, l, e, R, s, m, args, below, meth, c, Q⟩ := X
  obtain ⟨hx, hb, hml, hown, hts, hK, hSt, hNW, hbs, rfl⟩ := C
  intro ls H locs hl hR hS
  have hq2 : (lv.map (trp E) ++ exV E args)[q]? = some (i, toV E (aP x)) := (ex_at hq).trans rfl
  have g2 := g ls H locs hl hR hS
  cases x with
  | none => exact lv_aloadN hx hb d (lv_at hl q hq2) g2
  | some a => exact lv_aload hx hb d (lv_at hl q hq2) g2
def st1 (lv : List (Nat × AV)) (i : Nat) (v : AV) : List (Nat × AV) := (i, v) :: lv.filter (fun q => !(q.1 == i) && !(q.1 + 1 == i && cat q.2 == 2))
def st2 (lv : List (Nat × AV)) (i : Nat) (v : AV) : List (Nat × AV) := (i, v) :: lv.filter (fun q => !(q.1 == i) && (!(q.1 == i + 1) && !(q.1 + 1 == i && cat q.2 == 2)))
theorem st1_tr (E : EV) (lv : List (Nat × AV)) (i : Nat) (v : AV) : (i, toV E v) :: (lv.map (trp E)).filter (fun q => !(q.1 == i) && !(q.1 + 1 == i && q.2.category == 2)) = (st1 lv i v).map (trp E) := by
  simp only [st1, List.map_cons, trp, List.filter_map]
  congr 3
  funext q
  simp only [Function.comp, toV_cat]
theorem st2_tr (E : EV) (lv : List (Nat × AV)) (i : Nat) (v : AV) : (i, toV E v) :: (lv.map (trp E)).filter (fun q => !(q.1 == i) && (!(q.1 == i + 1) && !(q.1 + 1 == i && q.2.category == 2))) = (st2 lv i v).map (trp E) := by
  simp only [st2, List.map_cons, trp, List.filter_map]
  congr 3
  funext q
  simp only [Function.comp, toV_cat]
theorem st1_ex {E : EV} {args : Array Value} (lv : List (Nat × AV)) {i : Nat} (hi : 0 < i) (v : AV) : (i, toV E v) :: (lv.map (trp E) ++ exV E args).filter (fun q => !(q.1 == i) && !(q.1 + 1 == i && q.2.category == 2)) = (st1 lv i v).map (trp E) ++ exV E args := by
  have e : (exV E args).filter (fun q => !(q.1 == i) && !(q.1 + 1 == i && q.2.category == 2)) = exV E args := List.filter_eq_self.mpr fun q hq => by
    obtain ⟨a, b⟩ := exV_mem hq
    simp only [a, Bool.and_eq_true, Bool.not_eq_true', beq_eq_false_iff_ne, Bool.and_eq_false_iff]
    exact ⟨by omega, Or.inr b⟩
  rw [List.filter_append, e, ← List.cons_append, st1_tr]
theorem st2_ex {E : EV} {args : Array Value} (lv : List (Nat × AV)) {i : Nat} (hi : 0 < i) (v : AV) : (i, toV E v) :: (lv.map (trp E) ++ exV E args).filter (fun q => !(q.1 == i) && (!(q.1 == i + 1) && !(q.1 + 1 == i && q.2.category == 2))) = (st2 lv i v).map (trp E) ++ exV E args := by
  have e : (exV E args).filter (fun q => !(q.1 == i) && (!(q.1 == i + 1) && !(q.1 + 1 == i && q.2.category == 2))) = exV E args := List.filter_eq_self.mpr fun q hq => by
    obtain ⟨a, b⟩ := exV_mem hq
    simp only [a, Bool.and_eq_true, Bool.not_eq_true', beq_eq_false_iff_ne, Bool.and_eq_false_iff]
    exact ⟨by omega, by omega, Or.inr b⟩
  rw [List.filter_append, e, ← List.cons_append, st2_tr]
theorem r_istore_n {E : EV} {X : AX} {cc : ByteArray} {own : String} {nL : Nat} {rm : Room} {k n pc : Nat} {lv : List (Nat × AV)} {st : List AV} {h : AH} {i : Nat} {kk : Fin 4} {x : Int32} {lv' : List (Nat × AV)} (C : Cb E X cc own nL rm) (d : decode cc pc = .ok (.istore_n kk, 1)) (hi : (kk : Nat) = i) (hn : 0 < i ∧ i < nL) (hl' : st1 lv i (aI x) = lv') (g : Go E X nL k n (pc + 1) lv' st h) : Go E X nL k n pc lv (aI x :: st) h := by
  obtain ⟨p, l, e, R, s, m, args, below, meth, c, Q⟩ := X
  obtain ⟨hx, hb, hml, hown, hts, hK, hSt, hNW, hbs, rfl⟩ := C
  intro ls H locs hl hR hS
  subst hl'
  have hst := st1_ex (E := E) (args := args) lv hn.1 (aI x)
  exact lv_istore_n hx hb d hi hl hn.2 hst (fun ls' hl2 => g ls' H locs hl2 hR hS)
theorem r_lstore_n {E : EV} {X : AX} {cc : ByteArray} {own : String} {nL : Nat} {rm : Room} {k n pc : Nat} {lv : List (Nat × AV)} {st : List AV} {h : AH} {i : Nat} {kk : Fin 4} {x : Int64} {lv' : List (Nat × AV)} (C : Cb E X cc own nL rm) (d : decode cc pc = .ok (.lstore_n kk, 1)) (hi : (kk : Nat) = i) (hn : 0 < i ∧ i + 1 < nL) (hl' : st2 lv i (aJ x) = lv') (g : Go E X nL k n (pc + 1) lv' st h) : Go E X nL k n pc lv (aJ x :: st) h := by
  obtain ⟨p, l, e, R, s, m, args, below, meth, c, Q⟩ := X
  obtain ⟨hx, hb, hml, hown, hts, hK, hSt, hNW, hbs, rfl⟩ := C
  intro ls H locs hl hR hS
  subst hl'
  have hst := st2_ex (E := E) (args := args) lv hn.1 (aJ x)
  exact lv_lstore_n hx hb d hi hl hn.2 hst (fun ls' hl2 => g ls' H locs hl2 hR hS)
theorem r_astore_n {E : EV} {X : AX} {cc : ByteArray} {own : String} {nL : Nat} {rm : Room} {k n pc : Nat} {lv : List (Nat × AV)} {st : List AV} {h : AH} {i : Nat} {kk : Fin 4} {x : Option Nat} {lv' : List (Nat × AV)} (C : Cb E X cc own nL rm) (d : decode cc pc = .ok (.astore_n kk, 1)) (hi : (kk : Nat) = i) (hn : 0 < i ∧ i < nL) (hl' : st1 lv i (aP x) = lv') (g : Go E X nL k n (pc + 1) lv' st h) : Go E X nL k n pc lv (aP x :: st) h := by
  obtain ⟨p, l, e, R, s, m, args, below, meth, c, Q⟩ := X
  obtain ⟨hx, hb, hml, hown, hts, hK, hSt, hNW, hbs, rfl⟩ := C
  intro ls H locs hl hR hS
  subst hl'
  have hst := st1_ex (E := E) (args := args) lv hn.1 (aP x)
  cases x with
  | none => exact lv_astore_nN hx hb d hi hl hn.2 hst (fun ls' hl2 => g ls' H locs hl2 hR hS)
  | some a => exact lv_astore_n hx hb d hi hl hn.2 hst (fun ls' hl2 => g ls' H locs hl2 hR hS)
theorem r_istore {E : EV} {X : AX} {cc : ByteArray} {own : String} {nL : Nat} {rm : Room} {k n pc : Nat} {lv : List (Nat × AV)} {st : List AV} {h : AH} {i : Nat} {x : Int32} {lv' : List (Nat × AV)} (C : Cb E X cc own nL rm) (d : decode cc pc = .ok (.istore i, 2)) (hn : 0 < i ∧ i < nL) (hl' : st1 lv i (aI x) = lv') (g : Go E X nL k n (pc + 2) lv' st h) : Go E X nL k n pc lv (aI x :: st) h := by
  obtain ⟨p, l, e, R, s, m, args, below, meth, c, Q⟩ := X
  obtain ⟨hx, hb, hml, hown, hts, hK, hSt, hNW, hbs, rfl⟩ := C
  intro ls H locs hl hR hS
  subst hl'
  have hst := st1_ex (E := E) (args := args) lv hn.1 (aI x)
  exact lv_istore hx hb d hl hn.2 hst (fun ls' hl2 => g ls' H locs hl2 hR hS)
theorem r_lstore {E : EV} {X : AX} {cc : ByteArray} {own : String} {nL : Nat} {rm : Room} {k n pc : Nat} {lv : List (Nat × AV)} {st : List AV} {h : AH} {i : Nat} {x : Int64} {lv' : List (Nat × AV)} (C : Cb E X cc own nL rm) (d : decode cc pc = .ok (.lstore i, 2)) (hn : 0 < i ∧ i + 1 < nL) (hl' : st2 lv i (aJ x) = lv') (g : Go E X nL k n (pc + 2) lv' st h) : Go E X nL k n pc lv (aJ x :: st) h := by
  obtain ⟨p, l, e, R, s, m, args, below, meth, c, Q⟩ := X
  obtain ⟨hx, hb, hml, hown, hts, hK, hSt, hNW, hbs, rfl⟩ := C
  intro ls H locs hl hR hS
  subst hl'
  have hst := st2_ex (E := E) (args := args) lv hn.1 (aJ x)
  exact lv_lstore hx hb d hl hn.2 hst (fun ls' hl2 => g ls' H locs hl2 hR hS)
theorem r_astore {E : EV} {X : AX} {cc : ByteArray} {own : String} {nL : Nat} {rm : Room} {k n pc : Nat} {lv : List (Nat × AV)} {st : List AV} {h : AH} {i : Nat} {x : Option Nat} {lv' : List (Nat × AV)} (C : Cb E X cc own nL rm) (d : decode cc pc = .ok (.astore i, 2)) (hn : 0 < i ∧ i < nL) (hl' : st1 lv i (aP x) = lv') (g : Go E X nL k n (pc + 2) lv' st h) : Go E X nL k n pc lv (aP x :: st) h := by
  obtain ⟨p, l, e, R, s, m, args, below, meth, c, Q⟩ := X
  obtain ⟨hx, hb, hml, hown, hts, hK, hSt, hNW, hbs, rfl⟩ := C
  intro ls H locs hl hR hS
  subst hl'
  have hst := st1_ex (E := E) (args := args) lv hn.1 (aP x)
  cases x with
  | none => exact lv_astoreN hx hb d hl hn.2 hst (fun ls' hl2 => g ls' H locs hl2 hR hS)
  | some a => exact lv_astore hx hb d hl hn.2 hst (fun ls' hl2 => g ls' H locs hl2 hR hS)
theorem r_iinc {E : EV} {X : AX} {cc : ByteArray} {own : String} {nL : Nat} {rm : Room} {k n pc : Nat} {lv : List (Nat × AV)} {st : List AV} {h : AH} {i : Nat} {w : Int} {x v : Int32} {lv' : List (Nat × AV)} (C : Cb E X cc own nL rm) (d : decode cc pc = .ok (.iinc i w, 3)) (q : Nat) (hq : lv[q]? = some (i, aI x)) (hv : Int32.ofInt w = v) (hn : 0 < i ∧ i < nL) (hl' : st1 lv i (aI (x + v)) = lv') (g : Go E X nL k n (pc + 3) lv' st h) : Go E X nL k n pc lv st h := by
  obtain ⟨p, l, e, R, s, m, args, below, meth, c, Q⟩ := X
  obtain ⟨hx, hb, hml, hown, hts, hK, hSt, hNW, hbs, rfl⟩ := C
  intro ls H locs hl hR hS
  subst hl'
  have hst := st1_ex (E := E) (args := args) lv hn.1 (aI (x + v))
  exact lv_iinc (k := q) hx hb d hl ((ex_at hq).trans rfl) (by rw [hv]) hn.2 hst (fun ls' hl2 => g ls' H locs hl2 hR hS)
theorem r_if_eq {E : EV} {X : AX} {cc : ByteArray} {own : String} {nL : Nat} {rm : Room} {k n pc : Nat} {lv : List (Nat × AV)} {st : List AV} {h : AH} {x : Int32} {off : Int} {tgt : Nat} (C : Cb E X cc own nL rm) (d : decode cc pc = .ok (.ifCond .eq off, 3)) (ht : (pc : Int) + off = (tgt : Int)) (g1 : x = 0 → Go E X nL k n tgt lv st h) (g2 : ¬ x = 0 → Go E X nL k n (pc + 3) lv st h) : Go E X nL k n pc lv (aI x :: st) h := by
  obtain ⟨p, l, e, R, s, m, args, below, meth, c, Q⟩ := X
  obtain ⟨hx, hb, hml, hown, hts, hK, hSt, hNW, hbs, rfl⟩ := C
  intro ls H locs hl hR hS
  exact lv_if_eq hx hb d ht (fun hc => g1 hc ls H locs hl hR hS) (fun hc => g2 hc ls H locs hl hR hS)
theorem r_icmp_eq {E : EV} {X : AX} {cc : ByteArray} {own : String} {nL : Nat} {rm : Room} {k n pc : Nat} {lv : List (Nat × AV)} {st : List AV} {h : AH} {x y : Int32} {off : Int} {tgt : Nat} (C : Cb E X cc own nL rm) (d : decode cc pc = .ok (.if_icmp .eq off, 3)) (ht : (pc : Int) + off = (tgt : Int)) (g1 : x = y → Go E X nL k n tgt lv st h) (g2 : ¬ x = y → Go E X nL k n (pc + 3) lv st h) : Go E X nL k n pc lv (aI y :: aI x :: st) h := by
  obtain ⟨p, l, e, R, s, m, args, below, meth, c, Q⟩ := X
  obtain ⟨hx, hb, hml, hown, hts, hK, hSt, hNW, hbs, rfl⟩ := C
  intro ls H locs hl hR hS
  exact lv_icmp_eq hx hb d ht (fun hc => g1 hc ls H locs hl hR hS) (fun hc => g2 hc ls H locs hl hR hS)
theorem r_if_ne {E : EV} {X : AX} {cc : ByteArray} {own : String} {nL : Nat} {rm : Room} {k n pc : Nat} {lv : List (Nat × AV)} {st : List AV} {h : AH} {x : Int32} {off : Int} {tgt : Nat} (C : Cb E X cc own nL rm) (d : decode cc pc = .ok (.ifCond .ne off, 3)) (ht : (pc : Int) + off = (tgt : Int)) (g1 : ¬ x = 0 → Go E X nL k n tgt lv st h) (g2 : x = 0 → Go E X nL k n (pc + 3) lv st h) : Go E X nL k n pc lv (aI x :: st) h := by
  obtain ⟨p, l, e, R, s, m, args, below, meth, c, Q⟩ := X
  obtain ⟨hx, hb, hml, hown, hts, hK, hSt, hNW, hbs, rfl⟩ := C
  intro ls H locs hl hR hS
  exact lv_if_ne hx hb d ht (fun hc => g1 hc ls H locs hl hR hS) (fun hc => g2 hc ls H locs hl hR hS)
theorem r_icmp_ne {E : EV} {X : AX} {cc : ByteArray} {own : String} {nL : Nat} {rm : Room} {k n pc : Nat} {lv : List (Nat × AV)} {st : List AV} {h : AH} {x y : Int32} {off : Int} {tgt : Nat} (C : Cb E X cc own nL rm) (d : decode cc pc = .ok (.if_icmp .ne off, 3)) (ht : (pc : Int) + off = (tgt : Int)) (g1 : ¬ x = y → Go E X nL k n tgt lv st h) (g2 : x = y → Go E X nL k n (pc + 3) lv st h) : Go E X nL k n pc lv (aI y :: aI x :: st) h := by
  obtain ⟨p, l, e, R, s, m, args, below, meth, c, Q⟩ := X
  obtain ⟨hx, hb, hml, hown, hts, hK, hSt, hNW, hbs, rfl⟩ := C
  intro ls H locs hl hR hS
  exact lv_icmp_ne hx hb d ht (fun hc => g1 hc ls H locs hl hR hS) (fun hc => g2 hc ls H locs hl hR hS)
theorem r_if_lt {E : EV} {X : AX} {cc : ByteArray} {own : String} {nL : Nat} {rm : Room} {k n pc : Nat} {lv : List (Nat × AV)} {st : List AV} {h : AH} {x : Int32} {off : Int} {tgt : Nat} (C : Cb E X cc own nL rm) (d : decode cc pc = .ok (.ifCond .lt off, 3)) (ht : (pc : Int) + off = (tgt : Int)) (g1 : x < 0 → Go E X nL k n tgt lv st h) (g2 : ¬ x < 0 → Go E X nL k n (pc + 3) lv st h) : Go E X nL k n pc lv (aI x :: st) h := by
  obtain ⟨p, l, e, R, s, m, args, below, meth, c, Q⟩ := X
  obtain ⟨hx, hb, hml, hown, hts, hK, hSt, hNW, hbs, rfl⟩ := C
  intro ls H locs hl hR hS
  exact lv_if_lt hx hb d ht (fun hc => g1 hc ls H locs hl hR hS) (fun hc => g2 hc ls H locs hl hR hS)
theorem r_icmp_lt {E : EV} {X : AX} {cc : ByteArray} {own : String} {nL : Nat} {rm : Room} {k n pc : Nat} {lv : List (Nat × AV)} {st : List AV} {h : AH} {x y : Int32} {off : Int} {tgt : Nat} (C : Cb E X cc own nL rm) (d : decode cc pc = .ok (.if_icmp .lt off, 3)) (ht : (pc : Int) + off = (tgt : Int)) (g1 : x < y → Go E X nL k n tgt lv st h) (g2 : ¬ x < y → Go E X nL k n (pc + 3) lv st h) : Go E X nL k n pc lv (aI y :: aI x :: st) h := by
  obtain ⟨p, l, e, R, s, m, args, below, meth, c, Q⟩ := X
  obtain ⟨hx, hb, hml, hown, hts, hK, hSt, hNW, hbs, rfl⟩ := C
  intro ls H locs hl hR hS
  exact lv_icmp_lt hx hb d ht (fun hc => g1 hc ls H locs hl hR hS) (fun hc => g2 hc ls H locs hl hR hS)
theorem r_if_ge {E : EV} {X : AX} {cc : ByteArray} {own : String} {nL : Nat} {rm : Room} {k n pc : Nat} {lv : List (Nat × AV)} {st : List AV} {h : AH} {x : Int32} {off : Int} {tgt : Nat} (C : Cb E X cc own nL rm) (d : decode cc pc = .ok (.ifCond .ge off, 3)) (ht : (pc : Int) + off = (tgt : Int)) (g1 : 0 ≤ x → Go E X nL k n tgt lv st h) (g2 : ¬ 0 ≤ x → Go E X nL k n (pc + 3) lv st h) : Go E X nL k n pc lv (aI x :: st) h := by
  obtain ⟨p, l, e, R, s, m, args, below, meth, c, Q⟩ := X
  obtain ⟨hx, hb, hml, hown, hts, hK, hSt, hNW, hbs, rfl⟩ := C
  intro ls H locs hl hR hS
  exact lv_if_ge hx hb d ht (fun hc => g1 hc ls H locs hl hR hS) (fun hc => g2 hc ls H locs hl hR hS)
theorem r_icmp_ge {E : EV} {X : AX} {cc : ByteArray} {own : String} {nL : Nat} {rm : Room} {k n pc : Nat} {lv : List (Nat × AV)} {st : List AV} {h : AH} {x y : Int32} {off : Int} {tgt : Nat} (C : Cb E X cc own nL rm) (d : decode cc pc = .ok (.if_icmp .ge off, 3)) (ht : (pc : Int) + off = (tgt : Int)) (g1 : y ≤ x → Go E X nL k n tgt lv st h) (g2 : ¬ y ≤ x → Go E X nL k n (pc + 3) lv st h) : Go E X nL k n pc lv (aI y :: aI x :: st) h := by
  obtain ⟨p, l, e, R, s, m, args, below, meth, c, Q⟩ := X
  obtain ⟨hx, hb, hml, hown, hts, hK, hSt, hNW, hbs, rfl⟩ := C
  intro ls H locs hl hR hS
  exact lv_icmp_ge hx hb d ht (fun hc => g1 hc ls H locs hl hR hS) (fun hc => g2 hc ls H locs hl hR hS)
theorem r_if_gt {E : EV} {X : AX} {cc : ByteArray} {own : String} {nL : Nat} {rm : Room} {k n pc : Nat} {lv : List (Nat × AV)} {st : List AV} {h : AH} {x : Int32} {off : Int} {tgt : Nat} (C : Cb E X cc own nL rm) (d : decode cc pc = .ok (.ifCond .gt off, 3)) (ht : (pc : Int) + off = (tgt : Int)) (g1 : 0 < x → Go E X nL k n tgt lv st h) (g2 : ¬ 0 < x → Go E X nL k n (pc + 3) lv st h) : Go E X nL k n pc lv (aI x :: st) h := by
  obtain ⟨p, l, e, R, s, m, args, below, meth, c, Q⟩ := X
  obtain ⟨hx, hb, hml, hown, hts, hK, hSt, hNW, hbs, rfl⟩ := C
  intro ls H locs hl hR hS
  exact lv_if_gt hx hb d ht (fun hc => g1 hc ls H locs hl hR hS) (fun hc => g2 hc ls H locs hl hR hS)
theorem r_icmp_gt {E : EV} {X : AX} {cc : ByteArray} {own : String} {nL : Nat} {rm : Room} {k n pc : Nat} {lv : List (Nat × AV)} {st : List AV} {h : AH} {x y : Int32} {off : Int} {tgt : Nat} (C : Cb E X cc own nL rm) (d : decode cc pc = .ok (.if_icmp .gt off, 3)) (ht : (pc : Int) + off = (tgt : Int)) (g1 : y < x → Go E X nL k n tgt lv st h) (g2 : ¬ y < x → Go E X nL k n (pc + 3) lv st h) : Go E X nL k n pc lv (aI y :: aI x :: st) h := by
  obtain ⟨p, l, e, R, s, m, args, below, meth, c, Q⟩ := X
  obtain ⟨hx, hb, hml, hown, hts, hK, hSt, hNW, hbs, rfl⟩ := C
  intro ls H locs hl hR hS
  exact lv_icmp_gt hx hb d ht (fun hc => g1 hc ls H locs hl hR hS) (fun hc => g2 hc ls H locs hl hR hS)
theorem r_if_le {E : EV} {X : AX} {cc : ByteArray} {own : String} {nL : Nat} {rm : Room} {k n pc : Nat} {lv : List (Nat × AV)} {st : List AV} {h : AH} {x : Int32} {off : Int} {tgt : Nat} (C : Cb E X cc own nL rm) (d : decode cc pc = .ok (.ifCond .le off, 3)) (ht : (pc : Int) + off = (tgt : Int)) (g1 : x ≤ 0 → Go E X nL k n tgt lv st h) (g2 : ¬ x ≤ 0 → Go E X nL k n (pc + 3) lv st h) : Go E X nL k n pc lv (aI x :: st) h := by
  obtain ⟨p, l, e, R, s, m, args, below, meth, c, Q⟩ := X
  obtain ⟨hx, hb, hml, hown, hts, hK, hSt, hNW, hbs, rfl⟩ := C
  intro ls H locs hl hR hS
  exact lv_if_le hx hb d ht (fun hc => g1 hc ls H locs hl hR hS) (fun hc => g2 hc ls H locs hl hR hS)
theorem r_icmp_le {E : EV} {X : AX} {cc : ByteArray} {own : String} {nL : Nat} {rm : Room} {k n pc : Nat} {lv : List (Nat × AV)} {st : List AV} {h : AH} {x y : Int32} {off : Int} {tgt : Nat} (C : Cb E X cc own nL rm) (d : decode cc pc = .ok (.if_icmp .le off, 3)) (ht : (pc : Int) + off = (tgt : Int)) (g1 : x ≤ y → Go E X nL k n tgt lv st h) (g2 : ¬ x ≤ y → Go E X nL k n (pc + 3) lv st h) : Go E X nL k n pc lv (aI y :: aI x :: st) h := by
  obtain ⟨p, l, e, R, s, m, args, below, meth, c, Q⟩ := X
  obtain ⟨hx, hb, hml, hown, hts, hK, hSt, hNW, hbs, rfl⟩ := C
  intro ls H locs hl hR hS
  exact lv_icmp_le hx hb d ht (fun hc => g1 hc ls H locs hl hR hS) (fun hc => g2 hc ls H locs hl hR hS)
theorem r_ifnull {E : EV} {X : AX} {cc : ByteArray} {own : String} {nL : Nat} {rm : Room} {k n pc : Nat} {lv : List (Nat × AV)} {st : List AV} {h : AH} {o : Option Nat} {off : Int} {tgt : Nat} (C : Cb E X cc own nL rm) (d : decode cc pc = .ok (.ifnull off, 3)) (ht : (pc : Int) + off = (tgt : Int)) (g1 : o = none → Go E X nL k n tgt lv st h) (g2 : ¬ o = none → Go E X nL k n (pc + 3) lv st h) : Go E X nL k n pc lv (aP o :: st) h := by
  obtain ⟨p, l, e, R, s, m, args, below, meth, c, Q⟩ := X
  obtain ⟨hx, hb, hml, hown, hts, hK, hSt, hNW, hbs, rfl⟩ := C
  intro ls H locs hl hR hS
  cases o with
  | none => exact lv_ifnullN hx hb d ht (g1 rfl ls H locs hl hR hS)
  | some a => exact lv_ifnull hx hb d (g2 (fun q => by cases q) ls H locs hl hR hS)
theorem r_ifnonnull {E : EV} {X : AX} {cc : ByteArray} {own : String} {nL : Nat} {rm : Room} {k n pc : Nat} {lv : List (Nat × AV)} {st : List AV} {h : AH} {o : Option Nat} {off : Int} {tgt : Nat} (C : Cb E X cc own nL rm) (d : decode cc pc = .ok (.ifnonnull off, 3)) (ht : (pc : Int) + off = (tgt : Int)) (g1 : ¬ o = none → Go E X nL k n tgt lv st h) (g2 : o = none → Go E X nL k n (pc + 3) lv st h) : Go E X nL k n pc lv (aP o :: st) h := by
  obtain ⟨p, l, e, R, s, m, args, below, meth, c, Q⟩ := X
  obtain ⟨hx, hb, hml, hown, hts, hK, hSt, hNW, hbs, rfl⟩ := C
  intro ls H locs hl hR hS
  cases o with
  | none => exact lv_ifnonnullN hx hb d (g2 rfl ls H locs hl hR hS)
  | some a => exact lv_ifnonnull hx hb d ht (g1 (fun q => by cases q) ls H locs hl hR hS)
theorem r_sub {E : EV} {X : AX} {nL : Nat} {k n pc : Nat} {lv : List (Nat × AV)} {st : List AV} {h : AH} {lv' : List (Nat × AV)} (ks : List Nat) (hk : ks.filterMap (fun q => lv[q]?) = lv') (g : Go E X nL k n pc lv' st h) : Go E X nL k n pc lv st h := by
  obtain ⟨p, l, e, R, s, m, args, below, meth, c, Q⟩ := X
  intro ls H locs hl hR hS
  refine g ls H locs ⟨hl.1, hl.2.1, fun q hq => hl.2.2 q ?_⟩ hR hS
  subst hk
  rcases List.mem_append.mp hq with h1 | h1
  · obtain ⟨y, hy, rfl⟩ := List.mem_map.mp h1
    obtain ⟨j, -, hj⟩ := List.mem_filterMap.mp hy
    exact List.mem_append_left _ (List.mem_map.mpr ⟨y, List.mem_of_getElem? hj, rfl⟩)
  · exact List.mem_append_right _ h1
theorem r_wide {E : EV} {X : AX} {nL : Nat} {k n pc : Nat} {lv : List (Nat × AV)} {st : List AV} {h : AH} {k' n' : Nat} (hk : k ≤ k') (hn : n ≤ n') (g : Go E X nL k' n' pc lv st h) : Go E X nL k n pc lv st h := by
  obtain ⟨p, l, e, R, s, m, args, below, meth, c, Q⟩ := X
  intro ls H locs hl hR hS
  exact W.widen hk hn (g ls H locs hl hR hS)
