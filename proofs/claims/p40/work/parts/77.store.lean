/-! new shapes -/
def FrG (h h' : AH) : Prop := h.length ≤ h'.length ∧ ∀ q, 313 ≤ q → q < h.length → h'[q]? = h[q]?
theorem FrG.refl {h : AH} : FrG h h := ⟨Nat.le_refl _, fun _ _ _ => rfl⟩
theorem FrG.trans {h h1 h2 : AH} (f : FrG h h1) (g : FrG h1 h2) : FrG h h2 := ⟨Nat.le_trans f.1 g.1, fun q a b => (g.2 q a (Nat.lt_of_lt_of_le b f.1)).trans (f.2 q a b)⟩
theorem Fr.g {h h' : AH} (f : Fr 0 313 h h') : FrG h h' := ⟨Nat.le_of_eq f.1.symm, fun q a _ => f.2 q (Or.inr a)⟩
def updM (M : Nat → SH) (b : Nat) (S : SH) : Nat → SH := fun a => if a = b then S else M a
theorem updM_self {M : Nat → SH} {b : Nat} {S : SH} : updM M b S b = S := if_pos rfl
theorem updM_ne {M : Nat → SH} {a b : Nat} {S : SH} (h : a ≠ b) : updM M b S a = M a := if_neg h
abbrev C5 : Type := Int32 × List Int32 × SV × List SV × (Nat → SH)
def Cg (t : C5) (h : AH) : Option AV → AH → Prop := kI fun r h' => r = t.1 ∧ Plb h' t.2.1 t.2.2.1 t.2.2.2.1 t.2.2.2.2 ∧ FrG h h'
theorem Cg.mk {t : C5} {h h' : AH} {r : Int32} (e : t.1 = r) (H : Plb h' t.2.1 t.2.2.1 t.2.2.2.1 t.2.2.2.2) (f : FrG h h') : Cg t h (some (aI r)) h' := ⟨r, rfl, e.symm, H, f⟩
theorem app_lt {h e : AH} {q : Nat} (hq : q < h.length) : (h ++ e)[q]? = h[q]? := List.getElem?_append_left hq
theorem app_at {h e : AH} {i : Nat} : (h ++ e)[h.length + i]? = e[i]? := by
  rw [List.getElem?_append_right (by omega), show h.length + i - h.length = i by omega]
theorem shape0_at {h : AH} : ShAt (h ++ shape0 h.length) h.length [] := by
  refine ⟨0, 0, 0, 0, List.replicate 4 0, List.replicate 18 0, List.replicate 18 0, ?_, ⟨?_, by simp⟩, ⟨?_, by simp⟩, ⟨?_, by simp⟩, by simp, by simp, fun k hk => ?_, fun j hj => by simp at hj, fun c => absurd rfl c⟩
  · exact app_at (i := 0)
  · exact app_at (i := 1)
  · exact app_at (i := 2)
  · exact app_at (i := 3)
  · have : k = 0 := by simpa using hk
    subst this; rfl
section NS
variable {E : EV} {h : AH} {cs : List Int32} {σ : SV} {vs : List SV} {M : Nat → SH}
theorem Plb.off (H : Plb h cs σ vs M) {a : Nat} (ha : Liv σ vs a) : a ≠ h.length := by
  have := (H.shm.1 a ha).1.end_; omega
theorem Plb.upd (H : Plb h cs σ vs M) {b : Nat} {S : SH} (hb : ∀ a, Liv σ vs a → a ≠ b) : Plb h cs σ vs (updM M b S) := by
  obtain ⟨h0, h1, h2, h3, h4, h5, h6, h7, h8, h9, h10, h11, q1, q2, q3, q4⟩ := H
  have stw : ∀ s, (∀ a, LivS s a → a ≠ b) → Stw M s → Stw (updM M b S) s := fun s hs w => ⟨w.1, w.2.1, fun it hi => by rw [updM_ne (hs _ (Or.inr ⟨it, hi, rfl⟩))]; exact w.2.2 it hi⟩
  exact ⟨h0, h1, h2, h3, h4, h5, h6, h7, h8, h9, h10, h11, fun a ha => by rw [updM_ne (hb a ha)]; exact q1 a ha, by rw [updM_ne (hb 1 (Or.inl rfl))]; exact q2, stw _ (fun a ha => hb a (Or.inr (Or.inl ha))) q3, fun s hs => stw s (fun a ha => hb a (Or.inr (Or.inr ⟨s, hs, ha⟩))) (q4 s hs)⟩
theorem s10_store (H : Plb h cs σ vs M) (hL : 313 ≤ h.length) {q : Nat} {S : SH} (G : ShAt h q S) (hS : Pok S) {j : Nat} (hj : j < 4) (t : Int32) : sX10_storeTurned E [aP (some 0), aP (some q), aI (Int32.ofNat j), aI t] h (Cg (Int32.ofNat S.length, cs, (σ.1.set j h.length, σ.2), push6 vs σ, updM M h.length (tnS t S)) h) := by
  refine eX10_storeTurned ?_
  unfold PX10_storeTurned_0
  refine ⟨⟨by omega, by omega⟩, fun h1 e1 => ?_⟩
  subst e1
  refine ⟨⟨by omega, by omega⟩, csV i0_Shape ⟨⟨by omega, by omega⟩, ?_⟩⟩
  have A := shape0_at (h := h)
  have hq := G.end_
  have G3 : ShAt (h ++ shape0 h.length) q S := G.same fun x a b => app_lt (by omega)
  obtain ⟨_, g6⟩ := A.ad
  refine cvVq g6 (s6_setTurned A G3 (by omega) t) fun h6 q6 => ?_
  obtain ⟨A6, f6⟩ := q6
  have A6 : ShAt h6 h.length (tnS t S) := A6
  have same6 : ∀ x, x < h.length → h6[x]? = h[x]? := fun x hx => (f6.2 x (by omega)).trans (app_lt hx)
  have l6 : h6.length = h.length + 4 := by rw [f6.1, List.length_append]; rfl
  have H6 : Plb h6 cs σ vs (updM M h.length (tnS t S)) := (H.grow same6).upd fun a ha => H.off ha
  refine (rdP_iff H6.1).mpr ⟨_, rfl, (rdP_iff H6.1).mpr ⟨_, rfl, ⟨by omega, by omega⟩, cvVq H6.hi.ad.1 H6.save fun h10 q10 => ?_⟩⟩
  obtain ⟨H10, f10⟩ := q10
  have A10 := A6.fr f10 (by omega)
  have sp := Plb.setSlot (E := E) H10 (j := j) (b := h.length) hj ⟨by rw [updM_self]; exact A10, by rw [updM_self]; exact tn_ok hS, Or.inr hL⟩
  refine (rdP_iff H10.1).mpr ⟨_, rfl, ⟨by omega, by omega⟩, cvVq H10.st.obj.1 sp fun h13 q13 => ?_⟩
  obtain ⟨H13, f13⟩ := q13
  have A13 := A10.fr f13 (by omega)
  obtain ⟨fs, g7, gf, -⟩ := shl A13
  refine (rdI_iff g7).mpr ⟨_, gf, ⟨by omega, by omega⟩, ?_⟩
  refine Cg.mk (by rw [tn_len]) H13 ⟨?_, fun x a b => ?_⟩
  · rw [f13.1, f10.1, l6]; omega
  · exact ((f13.2 x (by omega)).trans (f10.2 x (by omega))).trans (same6 x b)
theorem u10_store (H : Plb h cs σ vs M) (hL : 313 ≤ h.length) {q : Nat} {S : SH} (G : ShAt h q S) (hS : Pok S) {x : Int32} (hx : Slt x) (t : Int32) : sX10_storeTurned E [aP (some 0), aP (some q), aI x, aI t] h (Cg (Int32.ofNat S.length, cs, (σ.1.set (nx x) h.length, σ.2), push6 vs σ, updM M h.length (tnS t S)) h) := by
  have := s10_store (E := E) H hL G hS hx.nat.2 t
  rw [← hx.nat.1] at this; exact this
theorem pc_ok {cs : List Int32} : ∀ {t p : Nat} {V : List PT}, (pcGo cs t p V).1 = true → convexP (pcGo cs t p V).2.2 := fun {t} => by
  have e : ∀ p V, (pcEnd cs p V).1 = true → convexP (pcEnd cs p V).2.2 := fun p V => by
    unfold pcEnd
    split
    · split
      · rename_i z; intro _; exact cvxB_iff.mp z
      · intro q; exact absurd (show false = true from q) (by decide)
    · intro q; exact absurd (show false = true from q) (by decide)
  induction t with
  | zero => intro p V; exact e p V
  | succ t ih =>
    intro p V
    rw [pcGo_succ]
    split
    · exact e _ _
    · split
      · exact ih
      · intro q; exact absurd (show false = true from q) (by decide)
theorem sh_ok {cs : List Int32} : ∀ {t p : Nat} {S : SH}, Pok S → (shGo cs t p S).1 = true → Pok (shGo cs t p S).2.2 ∧ (shGo cs t p S).2.2 ≠ [] := fun {t} => by
  have e : ∀ p S, Pok S → (shEnd cs p S).1 = true → Pok (shEnd cs p S).2.2 ∧ (shEnd cs p S).2.2 ≠ [] := fun p S h q => ⟨h, (of_decide_eq_true q).2⟩
  induction t with
  | zero => intro p S; exact e p S
  | succ t ih =>
    intro p S h
    rw [shGo_succ]
    split
    · exact e _ _ h
    · split
      · rename_i z
        refine ih fun i hi => ?_
        rw [List.length_append, List.length_singleton] at hi
        rw [getD_app]
        by_cases c : i < S.length
        · rw [if_pos c]; exact h i c
        · rw [if_neg c, if_pos (by omega), rot_len]
          have h3 := (pc_ok z).2
          have h6 := pcGo_len (cs := cs) (t := 6) (p := skp cs p) (V := [])
          simp at h6; omega
      · intro q; exact absurd (show false = true from q) (by decide)
noncomputable def cLoad (cs : List Int32) (σ : SV) (vs : List SV) (M : Nat → SH) (b : Nat) (x : Int32) : C5 := ifC (Slt x) (if (shGo cs 3 0 []).1 = true then (Int32.ofNat (shGo cs 3 0 []).2.2.length, [], (σ.1.set (nx x) b, σ.2), push6 vs σ, updM M b (shGo cs 3 0 []).2.2) else (-10 - Int32.ofNat (shGo cs 3 0 []).2.1, cs, σ, vs, M)) (-1000001, cs, σ, vs, M)
theorem c10_load (H : Plb h cs σ vs M) (hL : 313 ≤ h.length) (x : Int32) : sX10_loadShape E [aP (some 0), aI x] h (Cg (cLoad cs σ vs M h.length x) h) := by
  refine eX10_loadShape ?_
  unfold PX10_loadShape_0
  refine ⟨⟨by omega, by omega⟩, csI (s10_isSlot x) ⟨fun c => ?_, fun c => ⟨⟨by omega, by omega⟩, ?_⟩⟩⟩
  · have hs := ifC1 rfl c
    obtain ⟨p, num, S, W, V, K⟩ := H.tx
    refine (rdP_iff H.1).mpr ⟨_, rfl, (rdP_iff H.1).mpr ⟨_, rfl, ⟨by omega, by omega⟩, cvIq K.2.1 (s7_read K) fun r h6 q6 => ?_⟩⟩
    obtain ⟨e6, ⟨n6, V6, K6⟩, f6⟩ := q6
    have H6 := H.rdk ⟨_, _, _, _, _, K6⟩ f6
    have ff : Fr 0 313 h h6 := f6.weak (by omega) (by omega)
    refine ⟨fun c6 => ?_, fun c6 => ?_⟩
    · have hok := r01 e6 c6
      have hS := sh_ok (cs := cs) (t := 3) (p := 0) (S := []) (fun i hi => by simp at hi) hok
      refine (rdP_iff H6.1).mpr ⟨_, rfl, (wr_iff K6.1.ad).mpr ⟨Nat.le_of_ble_eq_true rfl, ?_⟩⟩
      have K8 := K6.wipe
      have H8 := H6.rdk (cs' := []) ⟨_, _, _, _, _, K8.1⟩ K8.2
      have l8 : ((h6.set 5 (.inr (9, [aP (some 6), aI 0, aI (Int32.ofNat (shGo cs 3 0 []).2.1), aI n6])))).length = h.length := by rw [List.length_set, f6.1]
      have sp := u10_store (E := E) H8 (by rw [l8]; exact hL) K8.1.2.2.1 hS.1 hs 0
      rw [l8, tn_0] at sp
      refine (rdP_iff H8.1).mpr ⟨_, rfl, (rdP_iff K8.1.2.1).mpr ⟨_, rfl, ⟨by omega, by omega⟩, cvIq H8.1 sp fun r11 h12 q12 => ⟨⟨by omega, by omega⟩, ?_⟩⟩⟩
      obtain ⟨e12, H12, f12⟩ := q12
      unfold cLoad; rw [ifC_pos hs, if_pos hok]
      exact Cg.mk e12.symm H12 (((ff.trans (K8.2.weak (by omega) (by omega))).g).trans f12)
    · have hok := r00 e6 c6
      refine (rdP_iff H6.1).mpr ⟨_, rfl, (rdI_iff K6.1.ad).mpr ⟨_, rfl, ⟨by omega, by omega⟩, ?_⟩⟩
      unfold cLoad; rw [ifC_pos hs, if_neg hok]
      exact Cg.mk rfl H6 ff.g
  · unfold cLoad; rw [ifC_neg (ifC0 rfl c)]
    exact Cg.mk rfl H FrG.refl
noncomputable def cCopy (cs : List Int32) (σ : SV) (vs : List SV) (M : Nat → SH) (b : Nat) (x y t : Int32) : C5 := ifC (Slt x ∧ Slt y ∧ ¬ t < 0 ∧ t < 4) (ifC (slM M σ (nx x) = []) (-1000002, cs, σ, vs, M) (Int32.ofNat (slM M σ (nx x)).length, cs, (σ.1.set (nx y) b, σ.2), push6 vs σ, updM M b (tnS t (slM M σ (nx x))))) (-1000001, cs, σ, vs, M)
theorem c10_copy (H : Plb h cs σ vs M) (hL : 313 ≤ h.length) (x y t : Int32) : sX10_copyShape E [aP (some 0), aI x, aI y, aI t] h (Cg (cCopy cs σ vs M h.length x y t) h) := by
  refine eX10_copyShape ?_
  unfold PX10_copyShape_0
  have no : ¬ (Slt x ∧ Slt y ∧ ¬ t < 0 ∧ t < 4) → (0 ≤ 4 ∧ 0 ≤ 50) ∧ Cg (cCopy cs σ vs M h.length x y t) h (some (aI (-1000001))) h := fun q => ⟨⟨by omega, by omega⟩, by
    unfold cCopy; rw [ifC_neg q]; exact Cg.mk rfl H FrG.refl⟩
  refine ⟨⟨by omega, by omega⟩, csI (s10_isSlot x) ⟨fun c => no fun q => ifC0 rfl c q.1, fun c => ⟨⟨by omega, by omega⟩, csI (s10_isSlot y) ⟨fun c2 => no fun q => ifC0 rfl c2 q.2.1, fun c2 => ⟨fun c3 => no fun q => q.2.2.1 c3, fun c3 => ⟨fun c4 => (rdP_iff H.1).mpr ⟨_, rfl, ⟨by omega, by omega⟩, ?_⟩, fun c4 => no fun q => c4 q.2.2.2⟩⟩⟩⟩⟩⟩
  have h1 : Slt x ∧ Slt y ∧ ¬ t < 0 ∧ t < 4 := ⟨ifC1 rfl c, ifC1 rfl c2, c3, c4⟩
  obtain ⟨_, g6⟩ := (H.sl h1.1).1.ad
  refine cvP H.st.obj.1 (u8_slot H h1.1) ⟨⟨by omega, by omega⟩, cvI g6 (s6_isEmpty (H.sl h1.1).1) ⟨fun c5 => (rdP_iff H.1).mpr ⟨_, rfl, ⟨by omega, by omega⟩, ?_⟩, fun c5 => ⟨⟨by omega, by omega⟩, ?_⟩⟩⟩
  · refine cvP H.st.obj.1 (u8_slot H h1.1) ⟨⟨by omega, by omega⟩, cvIq H.1 (u10_store H hL (H.sl h1.1).1 (H.sl h1.1).2.1 h1.2.1 t) fun r h14 q14 => ⟨⟨by omega, by omega⟩, ?_⟩⟩
    obtain ⟨e14, H14, f14⟩ := q14
    unfold cCopy; rw [ifC_pos h1, ifC_neg (r00 rfl c5)]
    exact Cg.mk e14.symm H14 f14
  · unfold cCopy; rw [ifC_pos h1, ifC_pos (r01 rfl c5)]
    exact Cg.mk rfl H FrG.refl
noncomputable def cPlaceT (cs : List Int32) (σ : SV) (vs : List SV) (M : Nat → SH) (b : Nat) (x : Int32) : C5 :=
  if cErr M σ x = 0 then (if (btP M σ (slM M σ (nx x)) 4).1 < 4 then
      ((cBl (updM M b (tnS (btP M σ (slM M σ (nx x)) 4).1 (slM M σ (nx x)))) σ vs b).1, cs, (cBl (updM M b (tnS (btP M σ (slM M σ (nx x)) 4).1 (slM M σ (nx x)))) σ vs b).2.1, (cBl (updM M b (tnS (btP M σ (slM M σ (nx x)) 4).1 (slM M σ (nx x)))) σ vs b).2.2, updM M b (tnS (btP M σ (slM M σ (nx x)) 4).1 (slM M σ (nx x))))
    else (-1000009, cs, σ, vs, M)) else (cErr M σ x, cs, σ, vs, M)
theorem c10_placeT (H : Plb h cs σ vs M) (hL : 313 ≤ h.length) (x : Int32) (hb : Slt x → slM M σ (nx x) ≠ [] → ∀ t, SmB (bxP (tnS t (slM M σ (nx x))) σ.2.2.1 σ.2.2.2.1)) : sX10_placeTurned E [aP (some 0), aI x] h (Cg (cPlaceT cs σ vs M h.length x) h) := by
  refine eX10_placeTurned ?_
  unfold PX10_placeTurned_0
  refine ⟨⟨by omega, by omega⟩, cvI H.1 (s10_err H x) ⟨fun c => (rdP_iff H.1).mpr ⟨_, rfl, ⟨by omega, by omega⟩, ?_⟩, fun c => ⟨⟨by omega, by omega⟩, ?_⟩⟩⟩
  · obtain ⟨hs, hne, hn⟩ := cErr0 c
    have hS := (H.sl hs).2.1
    refine cvP H.st.obj.1 (u8_slot H hs) ⟨⟨by omega, by omega⟩, cvIq H.1 (s10_bestTurns H (H.sl hs).1 hS hne (H.sl hs).2.2 fun t _ => hb hs hne _) fun r h8 q8 => ?_⟩
    obtain ⟨e8, H8, f8⟩ := q8
    refine ⟨fun c8 => ⟨⟨by omega, by omega⟩, fun h10 e10 => ?_⟩, fun c8 => ⟨⟨by omega, by omega⟩, ?_⟩⟩
    · subst e10
      refine ⟨⟨by omega, by omega⟩, csV i0_Shape ?_⟩
      have l8 : h8.length = h.length := f8.1
      have A := shape0_at (h := h8)
      rw [l8] at A ⊢
      have same : ∀ y, y < h.length → (h8 ++ shape0 h.length)[y]? = h8[y]? := fun y hy => app_lt (by omega)
      have H12 : Plb (h8 ++ shape0 h.length) cs σ vs M := H8.grow fun y hy => same y (by omega)
      refine (rdP_iff H12.1).mpr ⟨_, rfl, ⟨by omega, by omega⟩, cvP H12.st.obj.1 (u8_slot H12 hs) ⟨⟨by omega, by omega⟩, ?_⟩⟩
      obtain ⟨_, g6⟩ := A.ad
      have G12 := (H12.sl hs).1
      have hq := (H8.sl hs).1.end_
      refine cvVq g6 (s6_setTurned A G12 (by omega) r) fun h18 q18 => ⟨⟨by omega, by omega⟩, ?_⟩
      obtain ⟨A18, f18⟩ := q18
      have A18 : ShAt h18 h.length (tnS r (slM M σ (nx x))) := A18
      have same18 : ∀ y, y < h8.length → h18[y]? = h8[y]? := fun y hy => (f18.2 y (by omega)).trans (same y (by omega))
      have H18 : Plb h18 cs σ vs (updM M h.length (tnS r (slM M σ (nx x)))) := (H8.grow same18).upd fun a ha => by rw [← l8]; exact H8.off ha
      have sp := s10_addBL (E := E) H18 hn (q := h.length) ⟨by rw [updM_self]; exact A18, by rw [updM_self]; exact tn_ok hS, Or.inr hL⟩ (by rw [updM_self]; exact tn_ne hne) (by rw [updM_self]; exact hb hs hne r)
      refine cvIq H18.1 sp fun r19 h20 q20 => ⟨⟨by omega, by omega⟩, ?_⟩
      obtain ⟨e20, H20, f20⟩ := q20
      unfold cPlaceT
      rw [if_pos c, if_pos (by rw [← e8]; exact c8), ← e8]
      refine Cg.mk e20.symm H20 ⟨?_, fun y a b => ?_⟩
      · rw [f20.1, f18.1, List.length_append, l8]; omega
      · exact ((f20.2 y (by omega)).trans (same18 y (by omega))).trans (f8.2 y (by omega))
    · unfold cPlaceT
      rw [if_pos c, if_neg (by rw [← e8]; exact c8)]
      exact Cg.mk rfl H8 (f8.weak (by omega) (by omega) : Fr 0 313 h h8).g
  · unfold cPlaceT; rw [if_neg c]
    exact Cg.mk rfl H FrG.refl
end NS
