/-! fields, arrays, new cells -/
def Fc (c : Nat) (C : String) (T : u_T) (N : Nat) (ty : Nat → FieldType) : Prop := c < 12 ∧ vwCl[c]? = some (C, T, N) ∧ (∀ w ∈ u_ws C T N, w ∈ Wg) ∧ (∀ k, k < N → parseFieldDescriptor (T k).2.2.1 = some (ty k)) ∧ (∀ a, a < N → ∀ b, b < N → a ≠ b → (T a).2.1 ≠ (T b).2.1)
def rd (h : AH) (o : Option Nat) (c k : Nat) (K : AV → Prop) : Prop := ∃ a vs v, o = some a ∧ h[a]? = some (.inr (c, vs)) ∧ vs[k]? = some v ∧ K v
def rdI (h : AH) (o : Option Nat) (c k : Nat) (K : Int32 → Prop) : Prop := ∃ a vs x, o = some a ∧ h[a]? = some (.inr (c, vs)) ∧ vs[k]? = some (aI x) ∧ K x
def rdJ (h : AH) (o : Option Nat) (c k : Nat) (K : Int64 → Prop) : Prop := ∃ a vs x, o = some a ∧ h[a]? = some (.inr (c, vs)) ∧ vs[k]? = some (aJ x) ∧ K x
def rdP (h : AH) (o : Option Nat) (c k : Nat) (K : Option Nat → Prop) : Prop := ∃ a vs x, o = some a ∧ h[a]? = some (.inr (c, vs)) ∧ vs[k]? = some (aP x) ∧ K x
def wr (h : AH) (o : Option Nat) (c k : Nat) (v : AV) (K : AH → Prop) : Prop := ∃ a vs, o = some a ∧ h[a]? = some (.inr (c, vs)) ∧ k < vs.length ∧ K (h.set a (.inr (c, vs.set k v)))
theorem rdI.mono {h : AH} {o : Option Nat} {c k : Nat} {K K' : Int32 → Prop} (hh : rdI h o c k K) (hk : ∀ x, K x → K' x) : rdI h o c k K' := by
  obtain ⟨a, vs, x, h1, h2, h3, h4⟩ := hh
  exact ⟨a, vs, x, h1, h2, h3, hk x h4⟩
theorem rdJ.mono {h : AH} {o : Option Nat} {c k : Nat} {K K' : Int64 → Prop} (hh : rdJ h o c k K) (hk : ∀ x, K x → K' x) : rdJ h o c k K' := by
  obtain ⟨a, vs, x, h1, h2, h3, h4⟩ := hh
  exact ⟨a, vs, x, h1, h2, h3, hk x h4⟩
theorem rdP.mono {h : AH} {o : Option Nat} {c k : Nat} {K K' : Option Nat → Prop} (hh : rdP h o c k K) (hk : ∀ x, K x → K' x) : rdP h o c k K' := by
  obtain ⟨a, vs, x, h1, h2, h3, h4⟩ := hh
  exact ⟨a, vs, x, h1, h2, h3, hk x h4⟩
theorem wr.mono {h : AH} {o : Option Nat} {c k : Nat} {v : AV} {K K' : AH → Prop} (hh : wr h o c k v K) (hk : ∀ x, K x → K' x) : wr h o c k v K' := by
  obtain ⟨a, vs, h1, h2, h3, h4⟩ := hh
  exact ⟨a, vs, h1, h2, h3, hk _ h4⟩
section HP
variable {E : EV} {X : AX} {cc : ByteArray} {own : String} {nL : Nat} {rm : Room} {k n pc : Nat} {lv : List (Nat × AV)} {st : List AV} {h : AH} {c N f index : Nat} {Cn : String} {T : u_T} {ty : Nat → FieldType} {o : Option Nat}
theorem getD_of {α : Type} {l : List α} {i : Nat} {v d : α} (h : l[i]? = some v) : l.getD i d = v := by
  rw [List.getD_eq_getElem?_getD, h]; rfl
theorem r_get (C : Cb E X cc own nL rm) (F : Fc c Cn T N ty) (hf : f < N) (hT : (T f).1 = Cn) (hw : Cond.fieldLink own index Cn (T f).2.1 (T f).2.2.1 ∈ Wg) (d : decode cc pc = .ok (.getfield index, 3))
    (g : rd h o c f (fun v => Go E X nL k n (pc + 3) lv (v :: st) h)) : Go E X nL k n pc lv (aP o :: st) h := by
  obtain ⟨a, vs, v, rfl, ha, hv, g⟩ := g
  obtain ⟨p, l, e, R, s, m, args, below, meth, c0, Q⟩ := X
  obtain ⟨hx, hb, hml, hown, hts, hK, hSt, hNW, hbs, rfl⟩ := C
  obtain ⟨hc, hcl, hin, hty, hnm⟩ := F
  intro ls H locs hl hR hS
  obtain ⟨r, h1, hlen, cell, q1, q2, q3, q4⟩ := (hR.2 a _ ha).1 hc
  have hr : r = (Cn, T, N) := Option.some.inj (h1.symm.trans hcl)
  subst hr
  obtain ⟨hSl, hfc, kC, hkC, hkind⟩ := hK.1 c _ hcl
  obtain ⟨cf, kf, fi, fd, hi, hsl⟩ := hSl f hf
  refine W.getf hx hb hown (hts _ hw) (by rw [hT] at hi; exact hi) (u_facts hfc hkC (u_lays hts hin hf) hi).1 q1 (by rw [q3]; exact fun h => by cases h) (v := toV E v) ?_ rfl rfl d (g ls H locs hl hR hS)
  rw [hsl, q4 f hf]
  show some (toV E (vs.getD f (aP none))) = _
  rw [getD_of hv]
theorem r_getI (C : Cb E X cc own nL rm) (F : Fc c Cn T N ty) (hf : f < N) (hT : (T f).1 = Cn) (hw : Cond.fieldLink own index Cn (T f).2.1 (T f).2.2.1 ∈ Wg) (d : decode cc pc = .ok (.getfield index, 3))
    (g : rdI h o c f (fun v => Go E X nL k n (pc + 3) lv (aI v :: st) h)) : Go E X nL k n pc lv (aP o :: st) h := by
  obtain ⟨a, vs, v, h1, ha, hv, g⟩ := g
  exact r_get C F hf hT hw d ⟨a, vs, _, h1, ha, hv, g⟩
theorem r_getJ (C : Cb E X cc own nL rm) (F : Fc c Cn T N ty) (hf : f < N) (hT : (T f).1 = Cn) (hw : Cond.fieldLink own index Cn (T f).2.1 (T f).2.2.1 ∈ Wg) (d : decode cc pc = .ok (.getfield index, 3))
    (g : rdJ h o c f (fun v => Go E X nL k n (pc + 3) lv (aJ v :: st) h)) : Go E X nL k n pc lv (aP o :: st) h := by
  obtain ⟨a, vs, v, h1, ha, hv, g⟩ := g
  exact r_get C F hf hT hw d ⟨a, vs, _, h1, ha, hv, g⟩
theorem r_getP (C : Cb E X cc own nL rm) (F : Fc c Cn T N ty) (hf : f < N) (hT : (T f).1 = Cn) (hw : Cond.fieldLink own index Cn (T f).2.1 (T f).2.2.1 ∈ Wg) (d : decode cc pc = .ok (.getfield index, 3))
    (g : rdP h o c f (fun v => Go E X nL k n (pc + 3) lv (aP v :: st) h)) : Go E X nL k n pc lv (aP o :: st) h := by
  obtain ⟨a, vs, v, h1, ha, hv, g⟩ := g
  exact r_get C F hf hT hw d ⟨a, vs, _, h1, ha, hv, g⟩
/-- what a store in the cell of an object does to the picture -/
theorem okc_store {a f : Nat} {vs : List AV} {v : AV} {H1 : Heap} {cell : Cell} {iS : Nat → Nat} (hc : c < 12) (hcl : vwCl[c]? = some (Cn, T, N)) (hlen : vs.length = N) (hf : f < N) (hap : ∀ x y, x < N → y < N → x ≠ y → iS x ≠ iS y) (hiS : E.2.1.2 c = iS)
    (q2 : cell.cls = E.2.1.1 c) (q3 : cell.vm = .none) (q4 : ∀ k, k < N → cell.slots[iS k]? = some (toV E (vs.getD k (aP none)))) (e1 : H1[E.1 + a]? = some (cell.setSlot (iS f) (toV E v))) : okc E (E.1 + a) (.inr (c, vs.set f v)) H1 := by
  refine ⟨fun _ => ⟨_, hcl, by simpa using hlen, ?_⟩, fun h12 => by omega⟩
  rw [hiS]
  refine t_OB.to (V := updV (fun i => toV E (vs.getD i (aP none))) f (toV E v)) ⟨_, e1, q2, q3, t_set q4 hap hf (toV E v)⟩ (fun j hj => ?_)
  simp only [updV, List.getD_eq_getElem?_getD]
  by_cases hjf : j = f
  · subst hjf
    rw [if_pos rfl, List.getElem?_set_self (by omega)]; rfl
  · rw [if_neg hjf, List.getElem?_set_ne (fun e => hjf e.symm)]
theorem r_put {v : AV} (C : Cb E X cc own nL rm) (F : Fc c Cn T N ty) (hf : f < N) (hT : (T f).1 = Cn) (hfin : (T f).2.2.2 = false) (hn : narrow (ty f) (toV E v) = toV E v) (hfit : fits (ty f) (toV E v) = true) (hw : Cond.fieldLink own index Cn (T f).2.1 (T f).2.2.1 ∈ Wg) (d : decode cc pc = .ok (.putfield index, 3))
    (g : wr h o c f v (fun h' => Go E X nL k n (pc + 3) lv st h')) : Go E X nL k n pc lv (v :: aP o :: st) h := by
  obtain ⟨a, vs, rfl, ha, hlt, g⟩ := g
  obtain ⟨p, l, e, R, s, m, args, below, meth, c0, Q⟩ := X
  obtain ⟨hx, hb, hml, hown, hts, hK, hSt, hNW, hbs, rfl⟩ := C
  obtain ⟨hc, hcl, hin, hty, hnm⟩ := F
  intro ls H locs hl hR hS
  obtain ⟨r, h1, hlen, cell, q1, q2, q3, q4⟩ := (hR.2 a _ ha).1 hc
  have hr : r = (Cn, T, N) := Option.some.inj (h1.symm.trans hcl)
  subst hr
  have hap := va_apart (own := own) hts hin ty hty hnm hK hcl
  obtain ⟨hSl, hfc, kC, hkC, hkind⟩ := hK.1 c _ hcl
  obtain ⟨cf, kf, fi, fd, hi, hsl⟩ := hSl f hf
  have hlay := hts _ (hin _ (u_in_lay hf))
  unfold u_lay at hlay
  rw [if_neg (by rw [hfin]; decide)] at hlay
  have hst := (u_facts hfc hkC (u_lays hts hin hf) hi).1
  have h6 := u_store hfc hkC hkind hlay hi (hty f hf) hn hfit
  refine W.putK hx hb (f := fd) ⟨hown, hts _ hw, ⟨_, _, _, by rw [hT] at hi; exact hi⟩, hst⟩ (by rw [q2]; exact h6) q1 q3 (by rw [hsl]; exact k2_hasslot (q4 f hf)) rfl rfl d fun H' e1 e2 e3 => ?_
  rw [hsl] at e1 ⊢
  exact g ls H' _ hl (hR.set e2 e3 (okc_store hc hcl hlen hf hap rfl q2 q3 q4 e1)) (hS.put e2 e3 (Nat.le_add_right _ _))
theorem r_putF {v : AV} {ret : Option FieldType} {post : Option AV → AH → Prop} (C : Cb E X cc own nL rm) (D : Cr E X ret rm "<init>" post) (F : Fc c Cn T N ty) (hf : f < N) (hT : (T f).1 = Cn) (ho : Cn = own) (hfin : (T f).2.2.2 = true) (hn : narrow (ty f) (toV E v) = toV E v) (hfit : fits (ty f) (toV E v) = true) (hw : Cond.fieldLink own index Cn (T f).2.1 (T f).2.2.1 ∈ Wg) (d : decode cc pc = .ok (.putfield index, 3))
    (g : wr h o c f v (fun h' => Go E X nL k n (pc + 3) lv st h')) : Go E X nL k n pc lv (v :: aP o :: st) h := by
  obtain ⟨a, vs, rfl, ha, hlt, g⟩ := g
  obtain ⟨p, l, e, R, s, m, args, below, meth, c0, Q⟩ := X
  obtain ⟨hx, hb, hml, hown, hts, hK, hSt, hNW, hbs, rfl⟩ := C
  obtain ⟨hc, hcl, hin, hty, hnm⟩ := F
  intro ls H locs hl hR hS
  obtain ⟨r, h1, hlen, cell, q1, q2, q3, q4⟩ := (hR.2 a _ ha).1 hc
  have hr : r = (Cn, T, N) := Option.some.inj (h1.symm.trans hcl)
  subst hr
  have hap := va_apart (own := own) hts hin ty hty hnm hK hcl
  obtain ⟨hSl, hfc, kC, hkC, hkind⟩ := hK.1 c _ hcl
  obtain ⟨cf, kf, fi, fd, hi, hsl⟩ := hSl f hf
  have hlay := hts _ (hin _ (u_in_lay hf))
  unfold u_lay at hlay
  rw [if_pos hfin] at hlay
  have hst := (u_facts hfc hkC (u_lays hts hin hf) hi).1
  have hcf : m.cls = cf := by
    obtain ⟨_, _, c', _, _, _, -, -, hf', -, -, -, hown2, -⟩ := Cond.laysFinal_spec hlay
    have e1 : c' = cf := by have := hi.symm.trans hf'; simp at this; exact this.1.symm
    rw [hT, ho] at hown2
    rw [← e1]; exact Option.some.inj (hown.symm.trans hown2)
  have h6 := u_fits hfc hkC hkind (Or.inr hlay) hi (hty f hf) hn hfit
  refine W.putFinK hx hb hown (hts _ hw) (by rw [hT] at hi; exact hi) hst hcf D.2.2.1 (by rw [q2]; exact h6) q1 q3 (by rw [hsl]; exact k2_hasslot (q4 f hf)) rfl rfl d fun H' e1 e2 e3 => ?_
  rw [hsl] at e1 ⊢
  exact g ls H' _ hl (hR.set e2 e3 (okc_store hc hcl hlen hf hap rfl q2 q3 q4 e1)) (hS.put e2 e3 (Nat.le_add_right _ _))
end HP
