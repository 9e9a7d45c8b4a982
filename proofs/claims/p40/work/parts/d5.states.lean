/-! the two states go on alike -/
theorem SR.nils : SR [] [] := ⟨rfl, fun i h => by simp at h⟩
theorem rot_rot {V : List PT} (h : 0 < V.length) : Rot (rotP V) V := by
  refine ⟨rot_len, low V, fun k => ?_⟩
  have hne := List.length_pos_iff.mp h
  have hm := Nat.mod_lt k h
  unfold rotP
  rw [show vR ((List.range V.length).map (vAt V)) k = ((List.range V.length).map (vAt V)).getD (k % V.length) (0, 0) by unfold vR; rw [List.length_map, List.length_range]]
  rw [getD_mapq (d := 0) (by rw [List.length_range]; exact hm)]
  have er : (List.range V.length).getD (k % V.length) 0 = k % V.length := by
    rw [List.getD_eq_getElem?_getD, List.getElem?_range hm]; rfl
  rw [er, vAt_vR hne (by omega)]
  exact vR_congr (by rw [Nat.add_mod, Nat.mod_mod, ← Nat.add_mod])
theorem sr_rot {S : SH} (h : ∀ V, V ∈ S → RP V) : SR (S.map rotP) S := by
  refine ⟨List.length_map .., fun i hi => ?_⟩
  rw [List.length_map] at hi
  rw [getD_mapq (d := []) hi]
  have r := h _ (getD_mem [] hi)
  exact ⟨rot_rot (by have := r.2.1; omega), r⟩
theorem vx_b9 {cs : List Int32} {p : Nat} (h : vxB cs p = true) : B9 (vxV cs p) := by
  unfold vxB vxC at h
  rw [Bool.and_eq_true, Bool.and_eq_true] at h
  have a := nmV_b h.1.1
  have b := nmV_b h.2
  exact ⟨a.1, a.2, b.1, b.2⟩
theorem pcGo_sm {cs : List Int32} : ∀ {t p : Nat} {V : List PT}, SmV V → SmV (pcGo cs t p V).2.2 ∧ ((pcGo cs t p V).1 = true → cvxB (pcGo cs t p V).2.2 = true) := fun {t} => by
  have en : ∀ p V, SmV V → SmV (pcEnd cs p V).2.2 ∧ ((pcEnd cs p V).1 = true → cvxB (pcEnd cs p V).2.2 = true) := fun p V h => by
    unfold pcEnd
    split
    · split
      · rename_i c; exact ⟨h, fun _ => c⟩
      · exact ⟨h, fun q => absurd q Bool.false_ne_true⟩
    · exact ⟨h, fun q => absurd q Bool.false_ne_true⟩
  induction t with
  | zero => intro p V h; exact en p V h
  | succ t ih =>
    intro p V h
    rw [pcGo_succ]
    split
    · exact en _ _ h
    · split
      · rename_i c
        refine ih fun v hv => ?_
        rcases List.mem_append.mp hv with q | q
        · exact h v q
        · rw [List.mem_singleton] at q
          rw [q]; exact vx_b9 c
      · exact ⟨h, fun q => absurd q Bool.false_ne_true⟩
theorem rwGo_ok {cs : List Int32} : ∀ {t p : Nat} {S : SH}, (∀ V, V ∈ S → RP V) → (∀ V, V ∈ (rwGo cs t p S).2.2 → RP V) ∧ (rwGo cs t p S).2.2.length ≤ S.length + t := fun {t} => by
  induction t with
  | zero => intro p S h; exact ⟨h, Nat.le_refl _⟩
  | succ t ih =>
    intro p S h
    rw [rwGo_succ]
    split
    · exact ⟨h, by show S.length ≤ _; omega⟩
    · split
      · rename_i c
        have pc := pcGo_sm (cs := cs) (t := 6) (p := skp cs p) (V := []) fun v hv => absurd hv List.not_mem_nil
        have l6 := pcGo_len (cs := cs) (t := 6) (p := skp cs p) (V := [])
        rw [List.length_nil, Nat.zero_add] at l6
        have cv := (convex_iff pc.1 l6).mp (cvxB_iff.mp (pc.2 c))
        have := ih (p := (pcGo cs 6 (skp cs p) []).2.1) (S := S ++ [(pcGo cs 6 (skp cs p) []).2.2]) fun V hV => by
          rcases List.mem_append.mp hV with q | q
          · exact h V q
          · rw [List.mem_singleton] at q
            rw [q]; exact ⟨pc.1, ⟨cv.1, l6⟩, cv.2⟩
        rw [List.length_append, List.length_singleton] at this
        exact ⟨this.1, by omega⟩
      · exact ⟨h, by show S.length ≤ _; omega⟩
/-- saved states -/
def HsR (M : Nat → SH) (vs : List SV) (ps : List RV) : Prop := vs.length = ps.length ∧ ∀ j, j < vs.length → StR M (vs.getD j ([], [], 0, 0, 0)) (ps.getD j dV)
def Ful (M : Nat → SH) (σ : SV) (vs : List SV) (ρ : RV) (ps : List RV) : Prop := StR M σ ρ ∧ HsR M vs ps
section SS
variable {M : Nat → SH} {σ : SV} {ρ : RV} {vs : List SV} {ps : List RV}
theorem HsR.snoc (H : HsR M vs ps) (h : StR M σ ρ) : HsR M (vs ++ [σ]) (ps ++ [ρ]) := by
  refine ⟨by rw [List.length_append, List.length_append, H.1]; rfl, fun j hj => ?_⟩
  rw [List.length_append, List.length_singleton] at hj
  rw [getD_app, getD_app, ← H.1]
  by_cases c : j < vs.length
  · rw [if_pos c, if_pos c]; exact H.2 j c
  · rw [if_neg c, if_neg c, if_pos (by omega), if_pos (by omega)]; exact h
theorem getD_tl {α : Type} {l : List α} {j : Nat} {d : α} : l.tail.getD j d = l.getD (j + 1) d := by
  cases l with
  | nil => simp
  | cons a l => rfl
theorem HsR.tail (H : HsR M vs ps) : HsR M vs.tail ps.tail := by
  refine ⟨by rw [List.length_tail, List.length_tail, H.1], fun j hj => ?_⟩
  rw [List.length_tail] at hj
  rw [getD_tl, getD_tl]
  exact H.2 _ (by omega)
theorem HsR.push (H : HsR M vs ps) (h : StR M σ ρ) : HsR M (push6 vs σ) (pushR ps ρ) := by
  unfold push6 pushR
  rw [← H.1]
  split
  · exact H.snoc h
  · exact H.tail.snoc h
theorem Ful.push (H : Ful M σ vs ρ ps) {σ' : SV} {ρ' : RV} (h : StR M σ' ρ') : Ful M σ' (push6 vs σ) ρ' (pushR ps ρ) := ⟨h, H.2.push H.1⟩
/-- a shape in a slot -/
theorem StR.slot (H : StR M σ ρ) {j a : Nat} {S' : SH} (hj : j < 4) (h : SR (M a) S' ∧ S'.length ≤ 3) : StR M (σ.1.set j a, σ.2) (ρ.1.set j S', ρ.2) := by
  refine ⟨⟨⟨by rw [List.length_set]; exact H.1.1.1, by rw [List.length_set]; exact H.1.1.2⟩, fun i hi => ?_⟩, H.2.1, H.2.2.1, H.2.2.2⟩
  show SR (M ((σ.1.set j a).getD i 0)) ((ρ.1.set j S').getD i []) ∧ ((ρ.1.set j S').getD i []).length ≤ 3
  rw [getD_set, getD_set]
  by_cases c : j = i
  · rw [if_pos ⟨c, by rw [H.1.1.1]; exact hj⟩, if_pos ⟨c, by rw [H.1.1.2]; exact hj⟩]; exact h
  · rw [if_neg fun q => c q.1, if_neg fun q => c q.1]; exact H.1.2 i hi
/-- an address that is not used may be given a shape -/
theorem StR.upd (H : StR M σ ρ) {b : Nat} {S : SH} (h : ∀ a, LivS σ a → a ≠ b) : StR (updM M b S) σ ρ := by
  refine ⟨⟨H.1.1, fun j hj => ?_⟩, ⟨⟨H.2.1.1.1, fun i hi => ?_⟩, H.2.1.2⟩, H.2.2.1, H.2.2.2⟩
  · rw [updM_ne (h _ (Or.inl (getD_mem 0 (by rw [H.1.1.1]; exact hj))))]
    exact H.1.2 j hj
  · obtain ⟨a, b', c⟩ := H.2.1.1.2 i hi
    have ne := h _ (Or.inr ⟨itA σ.2.1 i, getD_mem (0, 0, 0) hi, rfl⟩)
    unfold ItR
    rw [updM_ne ne]
    exact ⟨a, b', c⟩
theorem Ful.upd (H : Ful M σ vs ρ ps) {b : Nat} {S : SH} (h : ∀ a, Liv σ vs a → a ≠ b) : Ful (updM M b S) σ vs ρ ps := by
  refine ⟨H.1.upd fun a ha => h a (Or.inr (Or.inl ha)), H.2.1, fun j hj => ?_⟩
  refine (H.2.2 j hj).upd fun a ha => h a (Or.inr (Or.inr ⟨_, getD_mem _ hj, ha⟩))
theorem q_clear (H : Ful M σ vs ρ ps) (m1 : M 1 = []) (x : Int32) : (cClear M σ vs x).1 = (rClear ρ ps x).1 ∧ Ful M (cClear M σ vs x).2.1 (cClear M σ vs x).2.2 (rClear ρ ps x).2.1 (rClear ρ ps x).2.2 := by
  unfold cClear rClear
  by_cases c : Slt x
  · rw [ifC_pos c, ifC_pos c]
    have s := H.1.sl c
    by_cases e : slM M σ (nx x) = []
    · rw [ifC_pos e, ifC_pos (s.1.nil.mp e)]; exact ⟨rfl, H⟩
    · rw [ifC_neg e, ifC_neg fun q => e (s.1.nil.mpr q)]
      exact ⟨by dsimp only; rw [s.1.1], H.push (H.1.slot c.lt (by rw [m1]; exact ⟨SR.nils, Nat.zero_le _⟩))⟩
  · rw [ifC_neg c, ifC_neg c]; exact ⟨rfl, H⟩
theorem q_cont (H : Ful M σ vs ρ ps) (w hh : Int32) : (cCont σ vs w hh).1 = (rCont ρ ps w hh).1 ∧ Ful M (cCont σ vs w hh).2.1 (cCont σ vs w hh).2.2 (rCont ρ ps w hh).2.1 (rCont ρ ps w hh).2.2 := by
  have iff : (¬ w < 1 ∧ ¬ 40 < w ∧ ¬ hh < 1 ∧ hh ≤ 40) ↔ (inP w 1 40 ∧ inP hh 1 40) := ⟨fun h => ⟨⟨h.1, h.2.1⟩, h.2.2.1, i32_not_lt.mpr h.2.2.2⟩, fun h => ⟨h.1.1, h.1.2, h.2.1, i32_not_lt.mp h.2.2⟩⟩
  unfold cCont rCont
  by_cases c : inP w 1 40 ∧ inP hh 1 40
  · rw [ifC_pos (iff.mpr c), ifC_pos c]
    obtain ⟨⟨w1, w2⟩, h1, h2⟩ := c
    rw [Int32.lt_iff_toInt_lt] at w1 w2 h1 h2
    have z1 : (1 : Int32).toInt = 1 := by decide
    have z2 : (40 : Int32).toInt = 40 := by decide
    rw [z1] at w1 h1
    rw [z2] at w2 h2
    obtain ⟨e, wq⟩ := H.1.2.2.1
    have e3 : σ.2.2.2.2 = ρ.2.2.2.2 := congrArg (fun q => q.2.2) e
    refine ⟨by dsimp only; rw [H.1.n.1], H.push ⟨H.1.1, ⟨⟨rfl, fun i hi => by simp at hi⟩, Nat.zero_le _⟩, ⟨by dsimp only; rw [e3], ⟨⟨by dsimp only; omega, by dsimp only; omega⟩, by dsimp only; omega, by dsimp only; omega⟩, wq.2⟩, fun i hi => by simp at hi⟩⟩
  · rw [ifC_neg fun q => c (iff.mp q), ifC_neg c]; exact ⟨rfl, H⟩
theorem q_undo (H : Ful M σ vs ρ ps) : (cUndo σ vs).1 = (rUndo ρ ps).1 ∧ Ful M (cUndo σ vs).2.1 (cUndo σ vs).2.2 (rUndo ρ ps).2.1 (rUndo ρ ps).2.2 := by
  obtain ⟨H1, H2⟩ := H
  have iff : vs = [] ↔ ps = [] := by rw [← List.length_eq_zero_iff, ← List.length_eq_zero_iff, H2.1]
  unfold cUndo rUndo
  by_cases c : vs = []
  · rw [ifC_pos c, ifC_pos (iff.mp c)]; exact ⟨rfl, H1, H2⟩
  · rw [ifC_neg c, ifC_neg fun q => c (iff.mpr q)]
    have l := List.length_pos_iff.mpr c
    refine ⟨by dsimp only; rw [H2.1], ?_, by rw [List.length_dropLast, List.length_dropLast, H2.1], fun j hj => ?_⟩
    · have := H2.2 (vs.length - 1) (by omega)
      dsimp only
      rw [← H2.1]; exact this
    · dsimp only at hj ⊢
      rw [List.length_dropLast] at hj
      have g : ∀ {α : Type} (l : List α) (d : α) (j : Nat), j < l.length - 1 → l.dropLast.getD j d = l.getD j d := fun l d j h => by
        rw [List.getD_eq_getElem?_getD, List.getD_eq_getElem?_getD, List.getElem?_dropLast, if_pos h]
      rw [g _ _ _ hj, g _ _ _ (by rw [← H2.1]; exact hj)]
      exact H2.2 j (by omega)
theorem getD_eraseIdx {α : Type} {l : List α} {i j : Nat} {d : α} : (l.eraseIdx i).getD j d = l.getD (if j < i then j else j + 1) d := by
  rw [List.getD_eq_getElem?_getD, List.getD_eq_getElem?_getD, List.getElem?_eraseIdx]
  split <;> rfl
theorem q_remove (H : Ful M σ vs ρ ps) (i : Int32) : (cRemove σ vs i).1 = (rRemove ρ ps i).1 ∧ Ful M (cRemove σ vs i).2.1 (cRemove σ vs i).2.2 (rRemove ρ ps i).2.1 (rRemove ρ ps i).2.2 := by
  unfold cRemove rRemove
  by_cases c : Itm σ i
  · rw [ifC_pos c, ifC_pos ((H.1.itm i).mp c)]
    have lt := Itm.lt H.1 c
    have n := H.1.n
    have l1 : (σ.2.1.eraseIdx (nx i)).length = σ.2.1.length - 1 := List.length_eraseIdx_of_lt lt
    have l2 : (ρ.2.1.eraseIdx (nx i)).length = ρ.2.1.length - 1 := List.length_eraseIdx_of_lt (by rw [← n.1]; exact lt)
    refine ⟨by dsimp only; rw [n.1], H.push ⟨H.1.1, ⟨⟨?_, fun j hj => ?_⟩, ?_⟩, H.1.2.2.1, fun j hj => ?_⟩⟩
    · show (σ.2.1.eraseIdx (nx i)).length = (ρ.2.1.eraseIdx (nx i)).length
      rw [l1, l2, n.1]
    · have hj : j < (σ.2.1.eraseIdx (nx i)).length := hj
      show ItR M ((σ.2.1.eraseIdx (nx i)).getD j (0, 0, 0)) ((ρ.2.1.eraseIdx (nx i)).getD j dI)
      rw [getD_eraseIdx, getD_eraseIdx]
      exact H.1.2.1.1.2 _ (by split <;> omega)
    · show (ρ.2.1.eraseIdx (nx i)).length ≤ 8
      omega
    · have hj : j < (ρ.2.1.eraseIdx (nx i)).length := hj
      show rCon ((ρ.2.1.eraseIdx (nx i)).getD j dI).1 ρ.2.2.1 ρ.2.2.2.1 ((ρ.2.1.eraseIdx (nx i)).getD j dI).2.1 ((ρ.2.1.eraseIdx (nx i)).getD j dI).2.2 = true
      rw [getD_eraseIdx]
      exact H.1.2.2.2 _ (by split <;> omega)
  · rw [ifC_neg c, ifC_neg fun q => c ((H.1.itm i).mpr q)]; exact ⟨rfl, H⟩
end SS
