/-! my layer: an abstract heap (a list of cells; addresses count from a base), typed values, and one judgement Go: from every machine state that stands for the abstract one, the machine reaches its goal -/
abbrev AV : Type := Int32 ⊕ Int64 ⊕ Option Nat
abbrev aI (x : Int32) : AV := .inl x
abbrev aJ (x : Int64) : AV := .inr (.inl x)
abbrev aP (o : Option Nat) : AV := .inr (.inr o)
abbrev AE : Type := (Nat × List Int32) ⊕ (Nat × List AV)
abbrev AH : Type := List AE
abbrev EV : Type := Nat × va_G × (Nat → ClassId)
abbrev AX : Type := Program × Launch × Env × Room × State × MethodId × Array Value × List Frame × Method × Code × (State → Prop)
def toV (E : EV) (v : AV) : Value := match v with
  | .inl x => .int x
  | .inr (.inl x) => .long x
  | .inr (.inr none) => .null
  | .inr (.inr (some a)) => .ref (E.1 + a)
def cat (v : AV) : Nat := match v with
  | .inr (.inl _) => 2
  | _ => 1
theorem toV_cat (E : EV) (v : AV) : (toV E v).category = cat v := by
  rcases v with x | x | x | x <;> rfl
abbrev trp (E : EV) (q : Nat × AV) : Nat × Value := (q.1, toV E q.2)
def avargs : Nat → List AV → List (Nat × AV)
  | _, [] => []
  | i, v :: vs => (i, v) :: avargs (if cat v = 2 then i + 2 else i + 1) vs
theorem avargs_tr (E : EV) (vs : List AV) : ∀ i : Nat, lv_args i (vs.map (toV E)) = (avargs i vs).map (trp E) := by
  induction vs with
  | nil => intro i; rfl
  | cons v vs ih => intro i; simp only [List.map_cons, lv_args, avargs, toV_cat, ih, trp]
def avlen (vs : List AV) : Nat := (vs.map cat).sum
theorem avlen_tr (E : EV) (vs : List AV) : (lg_sl (vs.map (toV E))).length = avlen vs := by
  induction vs with
  | nil => rfl
  | cons v vs ih =>
    have h : (lg_sl ((v :: vs).map (toV E))).length = cat v + (lg_sl (vs.map (toV E))).length := by
      simp only [lg_sl, List.map_cons, List.flatMap_cons, List.length_append, toV_cat]
      congr 1
      rcases v with x | x | x <;> rfl
    rw [h, ih]; simp [avlen]
theorem arrV_congr {c : ClassId} {N : Nat} {f g : Nat → Value} (h : ∀ j, j < N → f j = g j) : arrV c N f = arrV c N g := by
  unfold arrV
  congr 2
  funext j
  exact h j.1 j.2
def okc (E : EV) (q : Nat) (x : AE) (H : Heap) : Prop := match x with
  | .inl (k, xs) => H[q]? = some (arrV (E.2.2 k) xs.length (fun j => .int (xs.getD j 0)))
  | .inr (c, vs) => (c < 12 → ∃ r : vw_C, vwCl[c]? = some r ∧ vs.length = r.2.2 ∧ t_OB q (E.2.1.1 c) r.2.2 (E.2.1.2 c) H (fun i => toV E (vs.getD i (aP none)))) ∧ (12 ≤ c → H[q]? = some (arrV (E.2.2 c) vs.length (fun j => toV E (vs.getD j (aP none)))))
theorem okc.kept {E : EV} {q : Nat} {x : AE} {H H1 : Heap} (h : okc E q x H) (hq : H1[q]? = H[q]?) : okc E q x H1 := by
  rcases x with ⟨k, xs⟩ | ⟨c, vs⟩
  · exact hq.trans h
  · obtain ⟨h1, h2⟩ := h
    refine ⟨fun hc => ?_, fun hc => hq.trans (h2 hc)⟩
    obtain ⟨r, a, b, d⟩ := h1 hc
    exact ⟨r, a, b, d.kept hq⟩
def Rel (E : EV) (h : AH) (H : Heap) : Prop := H.size = E.1 + h.length ∧ ∀ (k : Nat) (x : AE), h[k]? = some x → okc E (E.1 + k) x H
theorem Rel.set {E : EV} {h : AH} {H H1 : Heap} {k : Nat} {x : AE} (hR : Rel E h H) (hz : H1.size = H.size) (ho : ∀ q, q ≠ E.1 + k → H1[q]? = H[q]?) (hn : okc E (E.1 + k) x H1) : Rel E (h.set k x) H1 := by
  refine ⟨by rw [hz, hR.1, List.length_set], fun j y hj => ?_⟩
  by_cases hjk : j = k
  · subst hjk
    have hlt : j < h.length := by
      have := (List.getElem?_eq_some_iff.mp hj).1
      rwa [List.length_set] at this
    rw [List.getElem?_set_self hlt] at hj
    cases hj
    exact hn
  · rw [List.getElem?_set_ne (fun e => hjk e.symm)] at hj
    exact (hR.2 j y hj).kept (ho _ (by omega))
theorem Rel.push {E : EV} {h : AH} {H H1 : Heap} {x : AE} (hR : Rel E h H) (hz : H1.size = H.size + 1) (ho : ∀ q, q < H.size → H1[q]? = H[q]?) (hn : okc E (E.1 + h.length) x H1) : Rel E (h ++ [x]) H1 := by
  have h1 := hR.1
  refine ⟨by rw [hz, hR.1, List.length_append, List.length_singleton]; omega, fun j y hj => ?_⟩
  by_cases hjk : j < h.length
  · rw [List.getElem?_append_left hjk] at hj
    exact (hR.2 j y hj).kept (ho _ (by omega))
  · have hlt := (List.getElem?_eq_some_iff.mp hj).1
    rw [List.length_append, List.length_singleton] at hlt
    have hj2 : j = h.length := by omega
    subst hj2
    rw [List.getElem?_append_right (Nat.le_refl _), Nat.sub_self] at hj
    cases hj
    exact hn
abbrev tysE (E : EV) : List (ClassId × FieldType) := [(E.2.2 0, .int), (E.2.2 0, .int), (E.2.2 12, .object RX5), (E.2.2 13, .object RX6), (E.2.2 14, .object RX8)]
def dirxF (k : Nat) : Int32 := ([1, 1, 0, -1, -1, -1, 0, 1] : List Int32).getD k 0
def diryF (k : Nat) : Int32 := ([0, 1, 1, 1, 0, -1, -1, -1] : List Int32).getD k 0
def Sta1 (E : EV) (f : String) (z : Nat → Int32) (U : State) (H : Heap) : Prop := ∃ b, b < E.1 ∧ va_Z RX10 f "[I" (.ref b) (fun q => E.1 ≤ q) U H ∧ va_X b 8 z U H
def Sta (E : EV) (U : State) (H : Heap) : Prop := Sta1 E "DIRECTION_X" dirxF U H ∧ Sta1 E "DIRECTION_Y" diryF U H
theorem Sta1.kept {E : EV} {f : String} {z : Nat → Int32} {u U : State} {H H1 : Heap} (h : Sta1 E f z u H) (hvm : u.vm.Alike U.vm) (hz : E.1 ≤ H.size) (ho : ∀ q, q < H.size → ¬ E.1 ≤ q → H1[q]? = H[q]?) : Sta1 E f z U H1 := by
  obtain ⟨b, h1, h2, h3⟩ := h
  exact ⟨b, h1, (h2.moved hvm).kept ho, (h3.moved hvm).kept (ho b (by omega) (by omega))⟩
theorem Sta.kept {E : EV} {u U : State} {H H1 : Heap} (h : Sta E u H) (hvm : u.vm.Alike U.vm) (hz : E.1 ≤ H.size) (ho : ∀ q, q < H.size → ¬ E.1 ≤ q → H1[q]? = H[q]?) : Sta E U H1 := ⟨h.1.kept hvm hz ho, h.2.kept hvm hz ho⟩
def NW (U : State) : Prop := (∀ w ∈ nestW, va_Nw w U) ∧ va_AO RX5 U ∧ va_AO RX6 U ∧ va_AO RX8 U
theorem NW.warm {s U : State} (h : NW s) (hW : s.WarmedH U.vm) : NW U := by
  have key : ∀ w ∈ nestW, ∃ a i x hh, w = Cond.methodLinkNest a i x hh := by
    intro w hw
    simp only [nestW, List.mem_cons, List.not_mem_nil, or_false] at hw
    rcases hw with rfl | rfl | rfl | rfl | rfl | rfl | rfl | rfl | rfl | rfl | rfl | rfl | rfl <;> exact ⟨_, _, _, _, rfl⟩
  refine ⟨fun w hw => ?_, h.2.1.moved hW.alike, h.2.2.1.moved hW.alike, h.2.2.2.moved hW.alike⟩
  obtain ⟨a, i, x, hh, rfl⟩ := key w hw
  exact va_Nw.warmM hW (h.1 _ hw)
def Wd (E : EV) (h : AH) (U : State) : Prop := Rel E h U.heap ∧ va_K E.2.1 vwCl (tysE E) U ∧ Sta E U U.heap ∧ NW U
def Pc (E : EV) (vals : List AV) (h : AH) : Array Value → State → Prop := fun a U => a = (vals.map (toV E)).toArray ∧ Wd E h U
def Qc (E : EV) (post : Option AV → AH → Prop) : Array Value → State → Outcome → State → Prop := fun _ st o t => (∃ (v : Option AV) (h : AH), o = .returned (v.map (toV E)) ∧ post v h ∧ Rel E h t.heap) ∧ va_F (fun q => E.1 ≤ q) st t
def Spec (E : EV) (y : MethodName) (cc : ByteArray) (nL : Nat) (ret : Option FieldType) (rm : Room) (vals : List AV) (h : AH) (post : Option AV → AH → Prop) : Prop :=
  ∀ l : Launch, Met l y (.code y cc nL ret :: Wg) rm (Pc E vals h) (Qc E post) rm.cells rm.slots (fun q => E.1 ≤ q)
/-- the law's script stays in its place 0; no value of the abstract heap -/
def exV (E : EV) (args : Array Value) : List (Nat × Value) := match (args[0]? : Option Value) with
  | some (Value.ref b) => if b < E.1 then [(0, Value.ref b)] else []
  | _ => []
theorem exV_nil {E : EV} {vals : List AV} : exV E (vals.map (toV E)).toArray = [] := by
  cases vals with
  | nil => rfl
  | cons v vals =>
    have e : (((v :: vals).map (toV E)).toArray)[0]? = some (toV E v) := by rw [List.getElem?_toArray]; rfl
    unfold exV
    rw [e]
    rcases v with x | x | x | x
    · rfl
    · rfl
    · rfl
    · show (if E.1 + x < E.1 then _ else _) = _
      rw [if_neg (by omega)]
theorem exV_law {E : EV} {b : Nat} (h : b < E.1) : exV E #[.ref b] = [(0, .ref b)] := by
  show (if b < E.1 then _ else _) = _
  rw [if_pos h]
theorem exV_mem {E : EV} {args : Array Value} {q : Nat × Value} (h : q ∈ exV E args) : q.1 = 0 ∧ ¬ q.2.category = 2 := by
  unfold exV at h
  split at h
  · split at h
    · rw [List.mem_singleton] at h
      subst h
      exact ⟨rfl, show ¬ (1 : Nat) = 2 by decide⟩
    · exact absurd h List.not_mem_nil
  · exact absurd h List.not_mem_nil
theorem ex_at {E : EV} {args : Array Value} {lv : List (Nat × AV)} {q : Nat} {x : Nat × AV} (hq : lv[q]? = some x) : (lv.map (trp E) ++ exV E args)[q]? = some (trp E x) := by
  rw [List.getElem?_append_left (by rw [List.length_map]; exact (List.getElem?_eq_some_iff.mp hq).1), List.getElem?_map, hq]; rfl
def Go (E : EV) (X : AX) (nL k n pc : Nat) (lv : List (Nat × AV)) (st : List AV) (h : AH) : Prop :=
  match X with
  | (p, l, e, R, s, m, args, below, meth, c, Q) => ∀ (ls : Array Slot) (H : Heap) (locs : List Loc), lv_has ls nL (lv.map (trp E) ++ exV E args) → Rel E h H → va_S (fun q => E.1 ≤ q) s.heap H locs →
    W p l e R s m args below meth c H locs k n Q (F0 m pc ls (st.map (toV E)))
def Cb (E : EV) (X : AX) (cc : ByteArray) (own : String) (nL : Nat) (rm : Room) : Prop :=
  match X with
  | (p, _, _, R, s, m, args, _, _, c, _) => p.tables.exec = Jvm.exec ∧ c.code = cc ∧ c.maxLocals = nL ∧ s.vm.findClass own = some m.cls ∧ (∀ w ∈ Wg, w.before args s = true) ∧ va_K E.2.1 vwCl (tysE E) s ∧ Sta E s s.heap ∧ NW s ∧ E.1 ≤ s.heap.size ∧ R = rm
def Cr (E : EV) (X : AX) (ret : Option FieldType) (rm : Room) (mn : String) (post : Option AV → AH → Prop) : Prop :=
  match X with
  | (_, _, _, _, s, _, args, below, meth, _, Q) => meth.locks = false ∧ meth.sig.returnType = ret ∧ meth.name = mn ∧ Q = MQ below (Qc E post) args s rm.cells rm.slots (fun q => E.1 ≤ q)
theorem Spec.of {E : EV} {y : MethodName} {cc : ByteArray} {nL : Nat} {ret : Option FieldType} {rm : Room} {vals : List AV} {h : AH} {post : Option AV → AH → Prop} (own : String) (hy : plainName y.cls = true) (hown : y.cls = own) (hl : avlen vals ≤ nL)
    (body : ∀ X : AX, Cb E X cc own nL rm → Cr E X ret rm y.name post → Go E X nL 0 0 0 (avargs 0 vals) [] h) : Spec E y cc nL ret rm vals h post := by
  intro l
  refine Met.ofW (cc := cc) (maxL := nL) (ret := ret) hy rfl ?_
  intro p e s m args below meth c s₁ B hml hv
  obtain ⟨rfl, hR, hK, hSta, hNW⟩ := hv
  have hts := atoms_spec (ws := .code y cc nL ret :: Wg) B.pre
  have hown2 : s.vm.findClass own = some m.cls := by rw [← hown]; exact findClass_of_methodNamed B.named
  have hb := body (p, l, e, _, s, m, (vals.map (toV E)).toArray, below, meth, c, _) ⟨B.exec, B.bytes, hml, hown2, fun w hw => hts w (List.mem_cons_of_mem _ hw), hK, hSta, hNW, by rw [hR.1]; omega, rfl⟩ ⟨B.notSynchronized, B.returns, (name_of_methodNamed B.named B.method).1, rfl⟩
  have hl2 := lv_entry (vals.map (toV E)) (n := nL) (by rw [avlen_tr]; exact hl)
  rw [lg_entry_eq]
  exact hb _ s.heap [] (by rw [exV_nil, List.append_nil, ← avargs_tr]; exact hl2) hR va_S.rf
