/-! arrays, new cells, calls, ends -/
def alenI (h : AH) (o : Option Nat) (kd : Nat) (K : Int32 → Prop) : Prop := ∃ a xs, o = some a ∧ h[a]? = some (.inl (kd, xs)) ∧ K (Int32.ofNat xs.length)
def alenP (h : AH) (o : Option Nat) (kd : Nat) (K : Int32 → Prop) : Prop := ∃ a vs, o = some a ∧ h[a]? = some (.inr (kd, vs)) ∧ K (Int32.ofNat vs.length)
def aldI (h : AH) (o : Option Nat) (kd : Nat) (i : Int32) (K : Int32 → Prop) : Prop := ∃ a xs x, o = some a ∧ h[a]? = some (.inl (kd, xs)) ∧ ¬ i < 0 ∧ xs[i.toNatClampNeg]? = some x ∧ K x
def aldP (h : AH) (o : Option Nat) (kd : Nat) (i : Int32) (K : Option Nat → Prop) : Prop := ∃ a vs x, o = some a ∧ h[a]? = some (.inr (kd, vs)) ∧ ¬ i < 0 ∧ vs[i.toNatClampNeg]? = some (aP x) ∧ K x
def astI (h : AH) (o : Option Nat) (kd : Nat) (i x : Int32) (K : AH → Prop) : Prop := ∃ a xs, o = some a ∧ h[a]? = some (.inl (kd, xs)) ∧ ¬ i < 0 ∧ i.toNatClampNeg < xs.length ∧ K (h.set a (.inl (kd, xs.set i.toNatClampNeg x)))
def astP (h : AH) (o : Option Nat) (kd ci : Nat) (i : Int32) (w : Option Nat) (K : AH → Prop) : Prop := ∃ a vs b us, o = some a ∧ w = some b ∧ h[a]? = some (.inr (kd, vs)) ∧ h[b]? = some (.inr (ci, us)) ∧ ¬ i < 0 ∧ i.toNatClampNeg < vs.length ∧ K (h.set a (.inr (kd, vs.set i.toNatClampNeg (aP w))))
theorem alenI.mono {h : AH} {o : Option Nat} {kd : Nat} {K K' : Int32 → Prop} (hh : alenI h o kd K) (hk : ∀ x, K x → K' x) : alenI h o kd K' := by
  obtain ⟨a, xs, h1, h2, h3⟩ := hh
  exact ⟨a, xs, h1, h2, hk _ h3⟩
theorem alenP.mono {h : AH} {o : Option Nat} {kd : Nat} {K K' : Int32 → Prop} (hh : alenP h o kd K) (hk : ∀ x, K x → K' x) : alenP h o kd K' := by
  obtain ⟨a, xs, h1, h2, h3⟩ := hh
  exact ⟨a, xs, h1, h2, hk _ h3⟩
theorem aldI.mono {h : AH} {o : Option Nat} {kd : Nat} {i : Int32} {K K' : Int32 → Prop} (hh : aldI h o kd i K) (hk : ∀ x, K x → K' x) : aldI h o kd i K' := by
  obtain ⟨a, xs, x, h1, h2, h3, h4, h5⟩ := hh
  exact ⟨a, xs, x, h1, h2, h3, h4, hk _ h5⟩
theorem aldP.mono {h : AH} {o : Option Nat} {kd : Nat} {i : Int32} {K K' : Option Nat → Prop} (hh : aldP h o kd i K) (hk : ∀ x, K x → K' x) : aldP h o kd i K' := by
  obtain ⟨a, xs, x, h1, h2, h3, h4, h5⟩ := hh
  exact ⟨a, xs, x, h1, h2, h3, h4, hk _ h5⟩
theorem astI.mono {h : AH} {o : Option Nat} {kd : Nat} {i x : Int32} {K K' : AH → Prop} (hh : astI h o kd i x K) (hk : ∀ x, K x → K' x) : astI h o kd i x K' := by
  obtain ⟨a, xs, h1, h2, h3, h4, h5⟩ := hh
  exact ⟨a, xs, h1, h2, h3, h4, hk _ h5⟩
theorem astP.mono {h : AH} {o : Option Nat} {kd ci : Nat} {i : Int32} {w : Option Nat} {K K' : AH → Prop} (hh : astP h o kd ci i w K) (hk : ∀ x, K x → K' x) : astP h o kd ci i w K' := by
  obtain ⟨a, vs, b, us, h1, h2, h3, h4, h5, h6, h7⟩ := hh
  exact ⟨a, vs, b, us, h1, h2, h3, h4, h5, h6, hk _ h7⟩
section AR
variable {E : EV} {X : AX} {cc : ByteArray} {own : String} {nL : Nat} {rm : Room} {k n pc : Nat} {lv : List (Nat × AV)} {st : List AV} {h : AH} {o : Option Nat} {i x : Int32}
theorem in32 {m : Nat} (h0 : ¬ i < 0) (h1 : i.toNatClampNeg < m) : ¬ (i < 0 ∨ m ≤ i.toNatClampNeg) := fun q => q.elim h0 (fun z => by omega)
theorem getD_lt {α : Type} {l : List α} {j : Nat} {v d : α} (h : l[j]? = some v) : j < l.length ∧ l.getD j d = v := ⟨(List.getElem?_eq_some_iff.mp h).1, getD_of h⟩
theorem r_alenI (kd : Nat) (t0 : Nat) {ty : FieldType} (ht : (tysE E)[t0]? = some (E.2.2 kd, ty)) (C : Cb E X cc own nL rm) (d : decode cc pc = .ok (.arraylength, 1))
    (g : alenI h o kd (fun v => Go E X nL k n (pc + 1) lv (aI v :: st) h)) : Go E X nL k n pc lv (aP o :: st) h := by
  obtain ⟨a, xs, rfl, ha, g⟩ := g
  obtain ⟨p, l, e, R, s, m, args, below, meth, c0, Q⟩ := X
  obtain ⟨hx, hb, hml, hown, hts, hK, hSt, hNW, hbs, rfl⟩ := C
  intro ls H locs hl hR hS
  exact W.alen (n := Int32.ofNat xs.length) hx hb (hR.2 a _ ha) ((hK.2 t0 _ ht).1 _ _) (by rw [arrV_size]) rfl rfl d (g ls H locs hl hR hS)
theorem r_alenP (kd : Nat) (hkd : 12 ≤ kd) (t0 : Nat) {ty : FieldType} (ht : (tysE E)[t0]? = some (E.2.2 kd, ty)) (C : Cb E X cc own nL rm) (d : decode cc pc = .ok (.arraylength, 1))
    (g : alenP h o kd (fun v => Go E X nL k n (pc + 1) lv (aI v :: st) h)) : Go E X nL k n pc lv (aP o :: st) h := by
  obtain ⟨a, xs, rfl, ha, g⟩ := g
  obtain ⟨p, l, e, R, s, m, args, below, meth, c0, Q⟩ := X
  obtain ⟨hx, hb, hml, hown, hts, hK, hSt, hNW, hbs, rfl⟩ := C
  intro ls H locs hl hR hS
  exact W.alen (n := Int32.ofNat xs.length) hx hb ((hR.2 a _ ha).2 hkd) ((hK.2 t0 _ ht).1 _ _) (by rw [arrV_size]) rfl rfl d (g ls H locs hl hR hS)
theorem r_iald (C : Cb E X cc own nL rm) (d : decode cc pc = .ok (.iaload, 1)) (g : aldI h o 0 i (fun v => Go E X nL k n (pc + 1) lv (aI v :: st) h)) : Go E X nL k n pc lv (aI i :: aP o :: st) h := by
  obtain ⟨a, xs, x, rfl, ha, h0, hx1, g⟩ := g
  obtain ⟨p, l, e, R, s, m, args, below, meth, c0, Q⟩ := X
  obtain ⟨hx, hb, hml, hown, hts, hK, hSt, hNW, hbs, rfl⟩ := C
  intro ls H locs hl hR hS
  obtain ⟨hlt, hv⟩ := getD_lt (d := 0) hx1
  exact W.iald (v := .int x) hx hb (hR.2 a _ ha) ((hK.2 0 _ rfl).1 _ _) (fun q => by cases q) (by rw [arrV_size]; exact in32 h0 hlt) (by rw [arrV_read _ _ hlt, hv]) rfl rfl d (g ls H locs hl hR hS)
theorem okc_arr {a j : Nat} {kd : Nat} {xs : List Int32} {H1 : Heap} {y : Int32} (hj : j < xs.length) (e1 : H1[E.1 + a]? = some ((arrV (E.2.2 kd) xs.length (fun q => .int (xs.getD q 0))).setSlot j (.int y))) : okc E (E.1 + a) (.inl (kd, xs.set j y)) H1 := by
  show H1[E.1 + a]? = some _
  rw [e1, arrV_store, List.length_set]
  congr 1
  refine arrV_congr fun q hq => ?_
  simp only [updV, List.getD_eq_getElem?_getD]
  by_cases hqj : q = j
  · subst hqj
    rw [if_pos rfl, List.getElem?_set_self (by omega)]; rfl
  · rw [if_neg hqj, List.getElem?_set_ne (fun e => hqj e.symm)]
theorem r_iast (C : Cb E X cc own nL rm) (d : decode cc pc = .ok (.iastore, 1)) (g : astI h o 0 i x (fun h' => Go E X nL k n (pc + 1) lv st h')) : Go E X nL k n pc lv (aI x :: aI i :: aP o :: st) h := by
  obtain ⟨a, xs, rfl, ha, h0, hlt, g⟩ := g
  obtain ⟨p, l, e, R, s, m, args, below, meth, c0, Q⟩ := X
  obtain ⟨hx, hb, hml, hown, hts, hK, hSt, hNW, hbs, rfl⟩ := C
  intro ls H locs hl hR hS
  refine W.iast hx hb (hR.2 a _ ha) ((hK.2 0 _ rfl).1 _ _) (fun q => by cases q) (by rw [arrV_size]; exact in32 h0 hlt) rfl rfl d fun H1 e1 e2 e3 => ?_
  exact g ls H1 _ hl (hR.set e2 e3 (okc_arr hlt e1)) (hS.put e2 e3 (Nat.le_add_right _ _))
theorem toV_P (E : EV) (w : Option Nat) : toV E (aP w) = va_rf (w.map (E.1 + ·)) := by cases w <;> rfl
theorem r_aald (kd : Nat) (hkd : 12 ≤ kd) (t0 : Nat) {Cn : String} (ht : (tysE E)[t0]? = some (E.2.2 kd, .object Cn)) (C : Cb E X cc own nL rm) (d : decode cc pc = .ok (.aaload, 1)) (g : aldP h o kd i (fun v => Go E X nL k n (pc + 1) lv (aP v :: st) h)) : Go E X nL k n pc lv (aI i :: aP o :: st) h := by
  obtain ⟨a, vs, x, rfl, ha, h0, hx1, g⟩ := g
  obtain ⟨p, l, e, R, s, m, args, below, meth, c0, Q⟩ := X
  obtain ⟨hx, hb, hml, hown, hts, hK, hSt, hNW, hbs, rfl⟩ := C
  intro ls H locs hl hR hS
  obtain ⟨hlt, hv⟩ := getD_lt (d := aP none) hx1
  have hc := (hR.2 a _ ha).2 hkd
  exact W.aald (v := toV E (aP x)) (ty := .object Cn) hx hb hc ((hK.2 t0 _ ht).1 _ _) rfl (fun q => by cases q) (by rw [arrV_size]; exact in32 h0 hlt) (by rw [arrV_read _ _ hlt, hv]) rfl rfl d (g ls H locs hl hR hS)
theorem okc_arrP {a j : Nat} {kd : Nat} {vs : List AV} {H1 : Heap} {y : AV} (hkd : 12 ≤ kd) (hj : j < vs.length) (e1 : H1[E.1 + a]? = some ((arrV (E.2.2 kd) vs.length (fun q => toV E (vs.getD q (aP none)))).setSlot j (toV E y))) : okc E (E.1 + a) (.inr (kd, vs.set j y)) H1 := by
  refine ⟨fun h => by omega, fun _ => ?_⟩
  rw [e1, arrV_store, List.length_set]
  congr 1
  refine arrV_congr fun q hq => ?_
  simp only [updV, List.getD_eq_getElem?_getD]
  by_cases hqj : q = j
  · subst hqj
    rw [if_pos rfl, List.getElem?_set_self (by omega)]; rfl
  · rw [if_neg hqj, List.getElem?_set_ne (fun e => hqj e.symm)]
theorem r_aast (kd ci : Nat) (hkd : 12 ≤ kd) (hci : ci < 12) (t0 : Nat) {r : vw_C} (ht : (tysE E)[t0]? = some (E.2.2 kd, .object r.1)) (hc : vwCl[ci]? = some r) {w : Option Nat} (C : Cb E X cc own nL rm) (d : decode cc pc = .ok (.aastore, 1)) (g : astP h o kd ci i w (fun h' => Go E X nL k n (pc + 1) lv st h')) : Go E X nL k n pc lv (aP w :: aI i :: aP o :: st) h := by
  obtain ⟨a, vs, b, us, rfl, rfl, ha, hb0, h0, hlt, g⟩ := g
  obtain ⟨p, l, e, R, s, m, args, below, meth, c0, Q⟩ := X
  obtain ⟨hx, hb, hml, hown, hts, hK, hSt, hNW, hbs, rfl⟩ := C
  intro ls H locs hl hR hS
  obtain ⟨r', hr', -, cellV, g1, g2, g3, -⟩ := (hR.2 b _ hb0).1 hci
  have hcls := (hK.1 ci r hc).2
  obtain ⟨kA, comp, k1, k2, k3, -⟩ := (hK.2 t0 _ ht).2
  have hcomp : comp = E.2.1.1 ci := Option.some.inj (k3.symm.trans hcls.1)
  subst hcomp
  obtain ⟨kC, hkC, -⟩ := hcls.2
  refine W.aast hx hb ((hR.2 a _ ha).2 hkd) (fun q h => by cases h) (fun h => by cases h) k1 k2 rfl hkC ⟨h0, by rw [arrV_size]; exact hlt⟩ g1 (fun q h => by rw [g3] at h; cases h) (by rw [g2]; exact hkC) (by rw [g2]; exact va_assign hcls) rfl rfl d fun H1 e1 e2 e3 => ?_
  exact g ls H1 _ hl (hR.set e2 e3 (okc_arrP hkd hlt e1)) (hS.put e2 e3 (Nat.le_add_right _ _))
end AR
section NEW
variable {E : EV} {X : AX} {cc : ByteArray} {own : String} {nL : Nat} {rm : Room} {k n pc : Nat} {lv : List (Nat × AV)} {st : List AV} {h : AH} {o : Option Nat} {i x : Int32} {c N f index : Nat} {Cn : String} {T : u_T} {ty : Nat → FieldType}
theorem va_S.push {A : Nat → Prop} {H0 H H1 : Heap} {locs : List Loc} {z : Nat} (hS : va_S A H0 H locs) (hz : H1.size = H.size + z) (ho : ∀ q, q < H.size → H1[q]? = H[q]?) : va_S A H0 H1 locs :=
  ⟨Nat.le_trans hS.1 (by omega), fun q h1 h2 => (ho q (Nat.lt_of_lt_of_le h1 hS.1)).trans (hS.2.1 q h1 h2), hS.2.2⟩
theorem r_new {fs : List AV} (C : Cb E X cc own nL rm) (F : Fc c Cn T N ty) (hfl : fs.length = N) (hfs : ∀ j, j < N → defaultValue (ty j) = toV E (fs.getD j (aP none))) (hw : Cond.classLink own index Cn ∈ Wg) (hi : Cond.instantiable Cn N ∈ Wg) (hini : Cond.initialized Cn ∈ Wg)
    (hk : k + 1 ≤ rm.cells) (hn : n + N ≤ rm.slots) (d : decode cc pc = .ok (.new index, 3)) (g : Go E X nL (k + 1) (n + N) (pc + 3) lv (aP (some h.length) :: st) (h ++ [.inr (c, fs)])) : Go E X nL k n pc lv st h := by
  obtain ⟨p, l, e, R, s, m, args, below, meth, c0, Q⟩ := X
  obtain ⟨hx, hb, hml, hown, hts, hK, hSt, hNW, hbs, rfl⟩ := C
  obtain ⟨hc, hcl, hin, hty, hnm⟩ := F
  intro ls H locs hl hR hS
  have hts2 : ∀ w ∈ Wg, w.before args s = true := hts
  have hKn := hK.1 c _ hcl
  refine W.newcK hx hb hown (hts _ hw) (hts _ hi) (hts _ hini) rfl d hk hn hKn.2.1 rfl fun H1 kC hkC e1 z1 o1 => ?_
  have hs := hR.1
  have g2 := g ls H1 locs hl (hR.push z1 o1 ⟨fun _ => ⟨_, hcl, hfl, ?_⟩, fun h12 => by omega⟩) (hS.push z1 o1)
  · have he : H.size = E.1 + h.length := hs
    rw [he]
    exact g2
  · have := (u_born ty hts2 hin hKn hkC e1 hty).to hfs
    rw [hs] at this
    exact this
theorem r_newaI (kd : Nat) (atype : ArrayType) {fty : FieldType} (hat : newarray.typeOf atype = fty) (t0 : Nat) (ht : (tysE E)[t0]? = some (E.2.2 kd, fty)) (hRA : ∀ U cA, va_RA U cA fty → U.vm.findClass ("[" ++ fty.toString) = some cA) (hdv : defaultValue fty = .int 0) {N' : Nat} (C : Cb E X cc own nL rm) (hw : Cond.arrayClass fty ∈ Wg) (h0 : ¬ i < 0) (hN : i.toNatClampNeg = N') (hby : N' * componentBytes fty ≤ 536870912)
    (hk : k + 1 ≤ rm.cells) (hn : n + N' ≤ rm.slots) (d : decode cc pc = .ok (.newarray atype, 2)) (g : Go E X nL (k + 1) (n + N') (pc + 2) lv (aP (some h.length) :: st) (h ++ [.inl (kd, List.replicate N' 0)])) : Go E X nL k n pc lv (aI i :: st) h := by
  subst hat
  obtain ⟨p, l, e, R, s, m, args, below, meth, c0, Q⟩ := X
  obtain ⟨hx, hb, hml, hown, hts, hK, hSt, hNW, hbs, rfl⟩ := C
  intro ls H locs hl hR hS
  refine va_newaK hx hb (hts _ hw) rfl d rfl h0 hN hby hk hn rfl fun H1 cA e1 z1 o1 hAr hNm => ?_
  have hs := hR.1
  have hcA : cA = E.2.2 kd := Option.some.inj (hNm.symm.trans (hRA _ _ (hK.2 t0 _ ht).2))
  subst hcA
  have g2 := g ls H1 locs hl (hR.push z1 o1 ?_) (hS.push z1 o1)
  · rw [show H.size = E.1 + h.length from hs]
    exact g2
  · show H1[E.1 + h.length]? = _
    rw [← hs, e1, List.length_replicate]
    congr 1
    refine arrV_congr fun q hq => ?_
    rw [hdv, List.getD_eq_getElem?_getD, List.getElem?_replicate, if_pos hq]; rfl
theorem r_newaP (kd : Nat) (hkd : 12 ≤ kd) (t0 : Nat) (ht : (tysE E)[t0]? = some (E.2.2 kd, .object Cn)) {N' : Nat} (C : Cb E X cc own nL rm) (hAO : ∀ U, NW U → va_AO Cn U) (hw : Cond.classLink own index Cn ∈ Wg) (h0 : ¬ i < 0) (hN : i.toNatClampNeg = N') (hby : N' * 4 ≤ 536870912)
    (hk : k + 1 ≤ rm.cells) (hn : n + N' ≤ rm.slots) (d : decode cc pc = .ok (.anewarray index, 3)) (g : Go E X nL (k + 1) (n + N') (pc + 3) lv (aP (some h.length) :: st) (h ++ [.inr (kd, List.replicate N' (aP none))])) : Go E X nL k n pc lv (aI i :: st) h := by
  subst hN
  obtain ⟨p, l, e, R, s, m, args, below, meth, c0, Q⟩ := X
  obtain ⟨hx, hb, hml, hown, hts, hK, hSt, hNW, hbs, rfl⟩ := C
  intro ls H locs hl hR hS
  refine W.anew hx hb hown (hts _ hw) (va_AO.use (hAO _ hNW)) rfl d rfl h0 hby hk hn fun cA kA comp f1 f2 f3 f4 => ?_
  have hs := hR.1
  obtain ⟨kA', comp', q1, q2, q3, q4⟩ := (hK.2 t0 _ ht).2
  have hcA : cA = E.2.2 kd := Option.some.inj (f1.symm.trans q4)
  subst hcA
  generalize hH1 : H.push ({ cls := E.2.2 kd, slots := Array.replicate i.toNatClampNeg .null, vm := .none } : Cell) = H1
  have z1 : H1.size = H.size + 1 := by rw [← hH1, Array.size_push]
  have e1 : H1[H.size]? = some (arrV (E.2.2 kd) i.toNatClampNeg (fun _ => .null)) := by rw [← hH1, Array.getElem?_push_size, ← arrV_new]
  have o1 : ∀ q : Nat, q < H.size → H1[q]? = H[q]? := fun q hq => by rw [← hH1, Array.getElem?_push, if_neg (Nat.ne_of_lt hq)]
  have g2 := g ls H1 locs hl (hR.push z1 o1 ⟨fun h => by omega, fun _ => ?_⟩) (hS.push z1 o1)
  · rw [show H.size = E.1 + h.length from hs]
    exact g2
  · rw [← hs, e1, List.length_replicate]
    congr 1
    refine arrV_congr fun q hq => ?_
    rw [List.getD_eq_getElem?_getD, List.getElem?_replicate, if_pos hq]; rfl
theorem r_objInit (C : Cb E X cc own nL rm) (hw : Cond.methodLink own index objectInit ∈ Wg) (hi : Cond.instanceMethod objectInit ∈ Wg) (hco : Cond.code objectInit ⟨#[0xb1]⟩ 1 none ∈ Wg) (hfr : 1 ≤ rm.frames) (hlo : 20 ≤ rm.locals) (hst : avlen st ≤ 8) (d : decode cc pc = .ok (.invokespecial index, 3)) {a : Nat} (g : Go E X nL k n (pc + 3) lv st h) : Go E X nL k n pc lv (aP (some a) :: st) h := by
  obtain ⟨p, l, e, R, s, m, args, below, meth, c0, Q⟩ := X
  obtain ⟨hx, hb, hml, hown, hts, hK, hSt, hNW, hbs, rfl⟩ := C
  intro ls H locs hl hR hS
  have hsum : (List.map (fun v => v.category) (st.map (toV E))).sum = avlen st := by
    unfold avlen
    rw [List.map_map]
    congr 1
    exact List.map_congr_left fun v _ => toV_cat E v
  refine W.objInit hx hb hown (hts _ hw) (hts _ hi) (hts _ hco) rfl (by rw [hml]; exact hl.1) rfl d hfr ?_ (g ls H locs hl hR hS)
  have h1 : ∀ (G : JFrame), G.monitorRoom = 0 → 2 * G.monitorRoom + (List.map (fun v => v.category) (st.map (toV E))).sum + 12 ≤ R.locals := fun G hG => by rw [hG, hsum]; omega
  first | exact h1 _ rfl | (rw [hsum]; simp [JFrame.monitorRoom]; omega)
end NEW
