/-! the planner's state changes: saved states, copies, text, container -/
def OkS (h : AH) (M : Nat → SH) (s : SV) : Prop := (∀ a, LivS s a → ShAt h a (M a) ∧ Pok (M a) ∧ (a = 1 ∨ 313 ≤ a)) ∧ Stw M s
theorem OkS.fr {h h' : AH} {lo hi : Nat} {M : Nat → SH} {s : SV} (H : OkS h M s) (r : Fr lo hi h h') (d1 : 5 ≤ lo) (d2 : hi ≤ 313) : OkS h' M s :=
  ⟨fun a ha => ⟨(H.1 a ha).1.fr r (by rcases (H.1 a ha).2.2 with q | q <;> omega), (H.1 a ha).2⟩, H.2⟩
theorem Shm.ok {h : AH} {σ : SV} {vs : List SV} {M : Nat → SH} (H : Shm h σ vs M) : OkS h M σ := ⟨fun a ha => H.1 a (Or.inr (Or.inl ha)), H.2.2.1⟩
theorem Shm.okv {h : AH} {σ s : SV} {vs : List SV} {M : Nat → SH} (H : Shm h σ vs M) (hs : s ∈ vs) : OkS h M s := ⟨fun a ha => H.1 a (Or.inr (Or.inr ⟨s, hs, ha⟩)), H.2.2.2 s hs⟩
theorem Shm.mk {h : AH} {σ σ' : SV} {vs vs' : List SV} {M : Nat → SH} (H : Shm h σ vs M) (a : OkS h M σ') (b : ∀ s, s ∈ vs' → OkS h M s) : Shm h σ' vs' M :=
  ⟨fun x hx => by
    rcases hx with rfl | hx | ⟨s, hs, hx⟩
    · exact H.1 1 (Or.inl rfl)
    · exact a.1 x hx
    · exact (b s hs).1 x hx, H.2.1, a.2, fun s hs => (b s hs).2⟩
theorem push6_mem {vs : List SV} {σ s : SV} (h : s ∈ push6 vs σ) : s ∈ vs ∨ s = σ := by
  unfold push6 at h
  split at h
  · simpa using h
  · rw [List.mem_append] at h
    rcases h with h | h
    · exact Or.inl (List.mem_of_mem_tail h)
    · exact Or.inr (by simpa using h)
theorem OkS.shs {h : AH} {M : Nat → SH} {s : SV} (H : OkS h M s) : Shs h s := ⟨fun j hj => (H.1 _ (Or.inl (getD_mem 0 (by rw [H.2.1]; exact hj)))).1.ad, fun j hj => (H.1 _ (Or.inr ⟨_, getD_mem (0, 0, 0) hj, rfl⟩)).1.ad⟩
section CH
variable {E : EV} {h : AH} {cs : List Int32} {σ : SV} {vs : List SV} {M : Nat → SH}
theorem Plb.ok (H : Plb h cs σ vs M) : OkS h M σ := H.shm.ok
theorem Plb.hi (H : Plb h cs σ vs M) : Hi h 272 1 vs := H.2.2.2.2.2.2.2.1
theorem Hi.ad {a e : Nat} {vs : List SV} (H : Hi h a e vs) : h[a]? = some (.inr (1, [aP (some (a + 1)), aI (Int32.ofNat vs.length)])) ∧ vs.length ≤ 6 := by
  obtain ⟨bs, R, -⟩ := H
  exact ⟨R.1, R.2.2.2.1⟩
theorem Plb.save (H : Plb h cs σ vs M) : sX1_save E [aP (some 272), aP (some 262)] h (kV fun h' => Plb h' cs σ (push6 vs σ) M ∧ Fr 272 304 h h') := by
  refine spec_mono (s1_save (E := E) H.hi (by omega) H.st H.ok.shs) fun v h' ⟨e1, q1, q2⟩ => ⟨e1, ?_, q2⟩
  have Q := H.shm.fr q2 (by omega) (by omega)
  refine H.hist q1 (Q.mk Q.ok fun s hs => ?_) q2
  rcases push6_mem hs with z | rfl
  · exact Q.okv z
  · exact Q.ok
theorem Plb.save2 (H : Plb h cs σ vs M) {s : SV} (B : StI h 267 1 s) (ok : OkS h M s) : sX1_save E [aP (some 272), aP (some 267)] h (kV fun h' => Plb h' cs σ (push6 vs s) M ∧ Fr 272 304 h h') := by
  refine spec_mono (s1_save (E := E) H.hi (by omega) B ok.shs) fun v h' ⟨e1, q1, q2⟩ => ⟨e1, ?_, q2⟩
  have Q := H.shm.fr q2 (by omega) (by omega)
  refine H.hist q1 (Q.mk Q.ok fun s2 hs => ?_) q2
  rcases push6_mem hs with z | rfl
  · exact Q.okv z
  · exact ok.fr q2 (by omega) (by omega)
theorem Plb.keepB (H : Plb h cs σ vs M) : sX8_copy E [aP (some 267), aP (some 262)] h (kV fun h' => StI h' 267 1 σ ∧ Plb h' cs σ vs M ∧ Fr 267 272 h h') := by
  obtain ⟨σb, B⟩ := H.2.2.2.2.2.2.1
  exact spec_mono (t8_copy (E := E) B H.st (by omega) H.ok.shs) fun v h' ⟨e1, q1, q2⟩ => ⟨e1, q1, H.before ⟨_, q1⟩ q2, q2⟩
theorem Plb.backB (H : Plb h cs σ vs M) {s : SV} (B : StI h 267 1 s) (ok : OkS h M s) : sX8_copy E [aP (some 262), aP (some 267)] h (kV fun h' => Plb h' cs s vs M ∧ Fr 262 267 h h') := by
  refine spec_mono (t8_copy (E := E) H.st B (by omega) ok.shs) fun v h' ⟨e1, q1, q2⟩ => ⟨e1, ?_, q2⟩
  have Q := H.shm.fr q2 (by omega) (by omega)
  exact H.state q1 (Q.mk (ok.fr q2 (by omega) (by omega)) fun s hs => Q.okv hs) q2
theorem Plb.b267 (H : Plb h cs σ vs M) : ∃ fs, h[267]? = some (.inr (8, fs)) := by
  obtain ⟨σb, B⟩ := H.2.2.2.2.2.2.1
  exact ⟨_, B.obj.1⟩
def Cy (cs' : List Int32) (σ' : SV) (vs' : List SV) (M : Nat → SH) (h : AH) (v : Int32) : Option AV → AH → Prop := kI fun r h' => r = v ∧ Plb h' cs' σ' vs' M ∧ Fr 0 313 h h'
theorem Cy.mk {cs' : List Int32} {σ' : SV} {vs' : List SV} {h' : AH} {v r : Int32} (e : v = r) (H : Plb h' cs' σ' vs' M) (f : Fr 0 313 h h') : Cy cs' σ' vs' M h v (some (aI r)) h' := ⟨r, rfl, e.symm, H, f⟩
/-! text -/
noncomputable def cAppend (cs : List Int32) (c : Int32) : Int32 × List Int32 := ifC (¬ c < 0 ∧ c ≤ 255) (if cs.length < 150 then (Int32.ofNat (cs.length + 1), cs ++ [c]) else (-1000003, cs)) (-1000001, cs)
theorem Plb.tx (H : Plb h cs σ vs M) : ∃ p num S W V, RdK h 5 cs p num S W V := H.2.1
theorem c10_append (H : Plb h cs σ vs M) (c : Int32) : sX10_appendCharacter E [aP (some 0), aI c] h (Cy (cAppend cs c).2 σ vs M h (cAppend cs c).1) := by
  refine eX10_appendCharacter ?_
  unfold PX10_appendCharacter_0
  obtain ⟨p, num, S, W, V, K⟩ := H.tx
  have hl := K.1.len
  have no : ¬ (¬ c < 0 ∧ c ≤ 255) → Cy (cAppend cs c).2 σ vs M h (cAppend cs c).1 (some (aI (-1000001))) h := fun q => by
    unfold cAppend; rw [ifC_neg q]; exact Cy.mk rfl H Fr.refl
  refine ⟨fun c1 => no fun q => q.1 c1, fun c1 => ⟨fun c2 => (rdP_iff H.1).mpr ⟨_, rfl, (rdI_iff K.1.ad).mpr ⟨_, rfl, fun c3 => ?_, fun c3 => ?_⟩⟩, fun c2 => no fun q => c2 q.2⟩⟩
  · have h3 : cs.length < 150 := (i32_ltn (j := 150) (by omega) (by omega)).mp c3
    refine (rdP_iff H.1).mpr ⟨_, rfl, cvVq K.1.ad (s9_append K.1 h3 c) fun h5 q5 => ?_⟩
    have H5 := H.rdk (cs' := cs ++ [c]) ⟨p, num, S, W, V, q5.1, (q5.2.2 _ (by omega)).trans K.2.1, K.2.2.1.fr q5.2 (by omega), K.2.2.2.fr q5.2 (by omega)⟩ (q5.2.weak (by omega) (by omega))
    refine (rdP_iff H5.1).mpr ⟨_, rfl, (rdI_iff q5.1.ad).mpr ⟨_, rfl, ?_⟩⟩
    unfold cAppend; rw [ifC_pos ⟨c1, c2⟩, if_pos h3]
    exact Cy.mk (by rw [List.length_append]; rfl) H5 (q5.2.weak (by omega) (by omega))
  · have h3 : ¬ cs.length < 150 := mt (i32_ltn (j := 150) (by omega) (by omega)).mpr c3
    unfold cAppend; rw [ifC_pos ⟨c1, c2⟩, if_neg h3]
    exact Cy.mk rfl H Fr.refl
theorem TxO.wipe {a p : Nat} {num : Int32} (H : TxO h a cs p num) : TxO (h.set a (.inr (9, [aP (some (a + 1)), aI (Int32.ofNat 0), aI (Int32.ofNat p), aI num]))) a [] p num := by
  obtain ⟨xs, h1, h2, h3, h4, h5⟩ := H
  exact ⟨xs, gs h1, ⟨gsn (by omega) h2.1, h2.2⟩, by simp, h4, fun j hj => by simp at hj⟩
theorem RdK.wipe {p : Nat} {num : Int32} {S : SH} {W V : List PT} (K : RdK h 5 cs p num S W V) : RdK (h.set 5 (.inr (9, [aP (some 6), aI 0, aI (Int32.ofNat p), aI num]))) 5 [] p num S W V ∧ Fr 5 15 h (h.set 5 (.inr (9, [aP (some 6), aI 0, aI (Int32.ofNat p), aI num]))) := by
  have f : Fr 5 6 h (h.set 5 (.inr (9, [aP (some 6), aI 0, aI (Int32.ofNat p), aI num]))) := Fr.set (by omega) (by omega)
  exact ⟨⟨K.1.wipe, (f.2 _ (by omega)).trans K.2.1, K.2.2.1.fr f (by omega), K.2.2.2.fr f (by omega)⟩, f.weak (by omega) (by omega)⟩
theorem c10_clearText (H : Plb h cs σ vs M) : sX10_clearText E [aP (some 0)] h (Cy [] σ vs M h (Int32.ofNat cs.length)) := by
  refine eX10_clearText ?_
  unfold PX10_clearText_0
  obtain ⟨p, num, S, W, V, K⟩ := H.tx
  refine (rdP_iff H.1).mpr ⟨_, rfl, (rdI_iff K.1.ad).mpr ⟨_, rfl, (rdP_iff H.1).mpr ⟨_, rfl, (wr_iff K.1.ad).mpr ⟨Nat.le_of_ble_eq_true rfl, ?_⟩⟩⟩⟩
  exact Cy.mk rfl (H.rdk ⟨_, _, _, _, _, K.wipe.1⟩ K.wipe.2) (K.wipe.2.weak (by omega) (by omega))
/-! slots -/
theorem LivS.slot {sl : List Nat} {r : List IT × Int32 × Int32 × Int32} {j b a : Nat} (ha : LivS (sl.set j b, r) a) : a = b ∨ LivS (sl, r) a := by
  rcases ha with ha | ha
  · rcases List.mem_or_eq_of_mem_set ha with q | q
    · exact Or.inr (Or.inl q)
    · exact Or.inl q
  · exact Or.inr (Or.inr ha)
theorem OkS.slot {σ : SV} (H : OkS h M σ) {j b : Nat} (hb : ShAt h b (M b) ∧ Pok (M b) ∧ (b = 1 ∨ 313 ≤ b)) : OkS h M (σ.1.set j b, σ.2) :=
  ⟨fun a ha => by
    rcases ha.slot with rfl | q
    · exact hb
    · exact H.1 a q, by rw [List.length_set]; exact H.2.1, H.2.2⟩
theorem Plb.setSlot (H : Plb h cs σ vs M) {j b : Nat} (hj : j < 4) (hb : ShAt h b (M b) ∧ Pok (M b) ∧ (b = 1 ∨ 313 ≤ b)) : sX8_setSlot E [aP (some 262), aI (Int32.ofNat j), aP (some b)] h (kV fun h' => Plb h' cs (σ.1.set j b, σ.2) vs M ∧ Fr 262 267 h h') := by
  refine spec_mono (t8_setSlot (E := E) H.st hj hb.1.ad) fun v h' ⟨e1, q1, q2⟩ => ⟨e1, ?_, q2⟩
  have Q := H.shm.fr q2 (by omega) (by omega)
  exact H.state q1 (Q.mk (Q.ok.slot ⟨hb.1.fr q2 (by rcases hb.2.2 with z | z <;> omega), hb.2⟩) fun s hs => Q.okv hs) q2
theorem Plb.e1 (H : Plb h cs σ vs M) : ShAt h 1 [] ∧ Pok [] := by
  have := H.shm.1 1 (Or.inl rfl)
  rw [H.shm.2.1] at this
  exact ⟨this.1, this.2.1⟩
noncomputable def cClear (M : Nat → SH) (σ : SV) (vs : List SV) (x : Int32) : Int32 × SV × List SV := ifC (Slt x) (ifC (slM M σ (nx x) = []) (-1000002, σ, vs) (Int32.ofNat (slM M σ (nx x)).length, (σ.1.set (nx x) 1, σ.2), push6 vs σ)) (-1000001, σ, vs)
theorem c10_clearShape (H : Plb h cs σ vs M) (x : Int32) : sX10_clearShape E [aP (some 0), aI x] h (Cy cs (cClear M σ vs x).2.1 (cClear M σ vs x).2.2 M h (cClear M σ vs x).1) := by
  refine eX10_clearShape ?_
  unfold PX10_clearShape_0
  refine csI (s10_isSlot x) ⟨fun c => (rdP_iff H.1).mpr ⟨_, rfl, ?_⟩, fun c => ?_⟩
  · have hs := ifC1 rfl c
    have ex := hs.nat
    obtain ⟨_, g6⟩ := (H.sl hs).1.ad
    refine cvP H.st.obj.1 (u8_slot H hs) (cvI g6 (s6_isEmpty (H.sl hs).1) ⟨fun c2 => ?_, fun c2 => ?_⟩)
    · have hne := r00 rfl c2
      refine (rdP_iff H.1).mpr ⟨_, rfl, (rdP_iff H.1).mpr ⟨_, rfl, cvVq H.hi.ad.1 H.save fun h8 q8 => ?_⟩⟩
      obtain ⟨H8, f8⟩ := q8
      have O := H8.st.obj.1
      have sp := Plb.setSlot (E := E) H8 (j := nx x) (b := 1) ex.2 ⟨by rw [H8.shm.2.1]; exact H8.e1.1, by rw [H8.shm.2.1]; exact H8.e1.2, Or.inl rfl⟩
      rw [← ex.1] at sp
      refine (rdP_iff H8.1).mpr ⟨_, rfl, (rdP_iff H8.1).mpr ⟨_, rfl, (rdP_iff O).mpr ⟨_, rfl, cvVq O sp fun h9 q9 => ?_⟩⟩⟩
      obtain ⟨H9, f9⟩ := q9
      have d := (H.sl hs).2.2
      have G9 := ((H.sl hs).1.fr f8 (by omega)).fr f9 (by omega)
      obtain ⟨fs, g7, gf, -⟩ := shl G9
      refine (rdI_iff g7).mpr ⟨_, gf, ?_⟩
      unfold cClear; rw [ifC_pos hs, ifC_neg hne]
      exact Cy.mk rfl H9 ((f8.weak (by omega) (by omega)).trans (f9.weak (by omega) (by omega)))
    · unfold cClear; rw [ifC_pos hs, ifC_pos (r01 rfl c2)]
      exact Cy.mk rfl H Fr.refl
  · unfold cClear; rw [ifC_neg (ifC0 rfl c)]
    exact Cy.mk rfl H Fr.refl
/-! container and clearance -/
theorem StI.clr {σ : SV} (T : StI h 262 1 σ) (v : Int32) : StI (h.set 262 (.inr (8, [aP (some 1), aP (some 263), aP (some 264), aP (some 265), aP (some 266), aI (Int32.ofNat σ.2.1.length), aI σ.2.2.1, aI σ.2.2.2.1, aI v]))) 262 1 (σ.1, σ.2.1, σ.2.2.1, σ.2.2.2.1, v) := by
  obtain ⟨sh, xs, ys, ⟨h1, h2, h3, h4, h5⟩, h8, ag⟩ := T
  exact ⟨sh, xs, ys, ⟨gs h1, ⟨gsn (by omega) h2.1, h2.2⟩, ⟨gsn (by omega) h3.1, h3.2⟩, ⟨gsn (by omega) h4.1, h4.2⟩, ⟨gsn (by omega) h5.1, h5.2⟩⟩, h8, ag⟩
theorem StI.cnt0 {σ : SV} (T : StI h 262 1 σ) (w hh : Int32) : StI (h.set 262 (.inr (8, [aP (some 1), aP (some 263), aP (some 264), aP (some 265), aP (some 266), aI 0, aI w, aI hh, aI σ.2.2.2.2]))) 262 1 (σ.1, [], w, hh, σ.2.2.2.2) := by
  obtain ⟨sh, xs, ys, ⟨h1, h2, h3, h4, h5⟩, h8, ag⟩ := T
  exact ⟨sh, xs, ys, ⟨gs h1, ⟨gsn (by omega) h2.1, h2.2⟩, ⟨gsn (by omega) h3.1, h3.2⟩, ⟨gsn (by omega) h4.1, h4.2⟩, ⟨gsn (by omega) h5.1, h5.2⟩⟩, by simp, fun q hq => by simp at hq⟩
theorem OkS.noItems {σ : SV} (H : OkS h M σ) (r : Int32 × Int32 × Int32) : OkS h M (σ.1, [], r) :=
  ⟨fun a ha => by
    rcases ha with q | ⟨it, q, -⟩
    · exact H.1 a (Or.inl q)
    · exact absurd q List.not_mem_nil, H.2.1, Nat.zero_le 8, fun it q => absurd q List.not_mem_nil⟩
noncomputable def cCont (σ : SV) (vs : List SV) (w hh : Int32) : Int32 × SV × List SV := ifC (¬ w < 1 ∧ ¬ 40 < w ∧ ¬ hh < 1 ∧ hh ≤ 40) (Int32.ofNat σ.2.1.length, (σ.1, [], w, hh, σ.2.2.2.2), push6 vs σ) (-1000001, σ, vs)
theorem c10_setContainer (H : Plb h cs σ vs M) (w hh : Int32) : sX10_setContainer E [aP (some 0), aI w, aI hh] h (Cy cs (cCont σ vs w hh).2.1 (cCont σ vs w hh).2.2 M h (cCont σ vs w hh).1) := by
  refine eX10_setContainer ?_
  unfold PX10_setContainer_0
  have no : ¬ (¬ w < 1 ∧ ¬ 40 < w ∧ ¬ hh < 1 ∧ hh ≤ 40) → Cy cs (cCont σ vs w hh).2.1 (cCont σ vs w hh).2.2 M h (cCont σ vs w hh).1 (some (aI (-1000001))) h := fun q => by
    unfold cCont; rw [ifC_neg q]; exact Cy.mk rfl H Fr.refl
  refine ⟨fun c => no fun q => q.1 c, fun c1 => ⟨fun c => no fun q => q.2.1 c, fun c2 => ⟨fun c => no fun q => q.2.2.1 c, fun c3 => ⟨fun c4 => ?_, fun c => no fun q => c q.2.2.2⟩⟩⟩⟩
  refine (rdP_iff H.1).mpr ⟨_, rfl, (rdP_iff H.1).mpr ⟨_, rfl, cvVq H.hi.ad.1 H.save fun h8 q8 => ?_⟩⟩
  obtain ⟨H8, f8⟩ := q8
  have O := H8.st.obj.1
  have O1 := gs (x := .inr (8, [aP (some 1), aP (some 263), aP (some 264), aP (some 265), aP (some 266), aI (Int32.ofNat σ.2.1.length), aI w, aI σ.2.2.2.1, aI σ.2.2.2.2])) O
  have z1 := gsn (x := .inr (8, [aP (some 1), aP (some 263), aP (some 264), aP (some 265), aP (some 266), aI (Int32.ofNat σ.2.1.length), aI w, aI σ.2.2.2.1, aI σ.2.2.2.2])) (show 262 ≠ 0 by omega) H8.1
  have O2 := gs (x := .inr (8, [aP (some 1), aP (some 263), aP (some 264), aP (some 265), aP (some 266), aI (Int32.ofNat σ.2.1.length), aI w, aI hh, aI σ.2.2.2.2])) O1
  have z2 := gsn (x := .inr (8, [aP (some 1), aP (some 263), aP (some 264), aP (some 265), aP (some 266), aI (Int32.ofNat σ.2.1.length), aI w, aI hh, aI σ.2.2.2.2])) (show 262 ≠ 0 by omega) z1
  refine (rdP_iff H8.1).mpr ⟨_, rfl, (rdI_iff O).mpr ⟨_, rfl, (rdP_iff H8.1).mpr ⟨_, rfl, (wr_iff O).mpr ⟨Nat.le_of_ble_eq_true rfl, (rdP_iff z1).mpr ⟨_, rfl, (wr_iff O1).mpr ⟨Nat.le_of_ble_eq_true rfl, (rdP_iff z2).mpr ⟨_, rfl, (wr_iff O2).mpr ⟨Nat.le_of_ble_eq_true rfl, ?_⟩⟩⟩⟩⟩⟩⟩⟩
  rw [List.set_set, List.set_set]
  have f9 : Fr 262 267 h8 (h8.set 262 (.inr (8, [aP (some 1), aP (some 263), aP (some 264), aP (some 265), aP (some 266), aI 0, aI w, aI hh, aI σ.2.2.2.2]))) := Fr.set (by omega) (by omega)
  have Q := H8.shm.fr f9 (by omega) (by omega)
  have H9 := H8.state (H8.st.cnt0 w hh) (Q.mk (Q.ok.noItems _) fun s hs => Q.okv hs) f9
  unfold cCont; rw [ifC_pos ⟨c1, c2, c3, c4⟩]
  exact Cy.mk rfl H9 ((f8.weak (by omega) (by omega)).trans (f9.weak (by omega) (by omega)))
def fitK (M : Nat → SH) (σ : SV) (k : Nat) : Bool := freeP (obsP M σ.2.1 (itM M σ k) σ.2.2.2.2 (Int32.ofNat k)) (bxP (itM M σ k) σ.2.2.1 σ.2.2.2.1) (iX σ k) (iY σ k)
theorem Plb.p4 (H : Plb h cs σ vs M) : ∃ fs, h[30]? = some (.inr (4, fs)) := by
  obtain ⟨Os, bx, fx, fy, p⟩ := H.2.2.2.2.1
  exact ⟨_, p.1⟩
theorem Plb.prepI (H : Plb h cs σ vs M) {k : Nat} (hk : k < σ.2.1.length) (ex : Int32) : sX4_prepare E [aP (some 30), aP (some 262), aP (some (itA σ.2.1 k).1), aI ex] h (kV fun h' => PlO h' 30 (obsP M σ.2.1 (itM M σ k) σ.2.2.2.2 ex) (bxP (itM M σ k) σ.2.2.1 σ.2.2.2.1) ∧ Fr 30 262 h h') :=
  H.prep (H.item hk).1 (H.item hk).2.1 (flat_ne (H.item_ne hk) (H.item hk).2.1) (by have := (H.item hk).2.2; omega) ex
theorem s10_allFit (H : Plb h cs σ vs M) : sX10_allItemsFit E [aP (some 0)] h (kI fun r h' => r = (if (List.range σ.2.1.length).all (fitK M σ) = true then 1 else 0) ∧ Plb h' cs σ vs M ∧ Fr 30 262 h h') := by
  have h8 := H.n8
  refine uX10_allItemsFit (fun m h' l0 l1 => ∃ k, m = σ.2.1.length - k ∧ k ≤ σ.2.1.length ∧ l0 = some 0 ∧ l1 = Int32.ofNat k ∧ (List.range k).all (fitK M σ) = true ∧ Plb h' cs σ vs M ∧ Fr 30 262 h h') ⟨_, 0, rfl, Nat.zero_le _, rfl, rfl, rfl, H, Fr.refl⟩ ?_
  rintro m h' l0 l1 ⟨k, rfl, hk, rfl, rfl, hall, H', f⟩
  unfold PX10_allItemsFit_2
  have O := H'.st.obj.1
  obtain ⟨_, g4⟩ := H'.p4
  refine (rdP_iff H'.1).mpr ⟨_, rfl, (rdI_iff O).mpr ⟨_, rfl, fun c => ?_, fun c => ?_⟩⟩
  · have hkk : k = σ.2.1.length := by have := (i32_le (by omega) (by omega)).mp c; omega
    subst hkk
    exact ⟨_, rfl, by rw [if_pos hall], H', f⟩
  · have hkk : k < σ.2.1.length := by have := mt (i32_le (i := σ.2.1.length) (j := k) (by omega) (by omega)).mpr c; omega
    refine (rdP_iff H'.1).mpr ⟨_, rfl, (rdP_iff H'.1).mpr ⟨_, rfl, (rdP_iff H'.1).mpr ⟨_, rfl, cvP O (t8_shape H'.st hkk) (cvVq g4 (H'.prepI hkk _) fun h9 q9 => ?_)⟩⟩⟩
    have H9 := H'.places ⟨_, _, q9.1⟩ q9.2
    have O9 := H9.st.obj.1
    obtain ⟨fx, fy, X⟩ := q9.1
    refine (rdP_iff H9.1).mpr ⟨_, rfl, (rdP_iff H9.1).mpr ⟨_, rfl, cvI O9 (t8_x H9.st hkk) ((rdP_iff H9.1).mpr ⟨_, rfl, cvI O9 (t8_y H9.st hkk) (cvI X.1 (s4_isFree X H'.obOne _ _) ⟨fun c2 => ?_, fun c2 => ?_⟩)⟩)⟩⟩
    · refine ⟨σ.2.1.length - (k + 1), by omega, k + 1, rfl, hkk, rfl, i32_s k, ?_, H9, f.trans q9.2⟩
      rw [List.range_succ, List.all_append, hall]
      have := r01 rfl c2
      simp only [List.all_cons, List.all_nil, Bool.and_true, Bool.true_and]; exact this
    · refine ⟨_, rfl, ?_, H9, f.trans q9.2⟩
      rw [if_neg]
      intro q
      have := List.all_eq_true.mp q k (List.mem_range.mpr hkk)
      exact r00 rfl c2 this
noncomputable def cClr (M : Nat → SH) (σ : SV) (vs : List SV) (r : Int32) : Int32 × SV × List SV := ifC (¬ r < 0 ∧ r ≤ 5) (if (List.range σ.2.1.length).all (fitK M (σ.1, σ.2.1, σ.2.2.1, σ.2.2.2.1, r)) = true then (σ.2.2.2.2, (σ.1, σ.2.1, σ.2.2.1, σ.2.2.2.1, r), push6 vs σ) else (-1000002, σ, vs)) (-1000001, σ, vs)
theorem c10_setClearance (H : Plb h cs σ vs M) (r : Int32) : sX10_setClearance E [aP (some 0), aI r] h (Cy cs (cClr M σ vs r).2.1 (cClr M σ vs r).2.2 M h (cClr M σ vs r).1) := by
  refine eX10_setClearance ?_
  unfold PX10_setClearance_0
  have no : ¬ (¬ r < 0 ∧ r ≤ 5) → Cy cs (cClr M σ vs r).2.1 (cClr M σ vs r).2.2 M h (cClr M σ vs r).1 (some (aI (-1000001))) h := fun q => by
    unfold cClr; rw [ifC_neg q]; exact Cy.mk rfl H Fr.refl
  refine ⟨fun c => no fun q => q.1 c, fun c1 => ⟨fun c2 => ?_, fun c => no fun q => c q.2⟩⟩
  obtain ⟨_, g8⟩ := H.b267
  refine (rdP_iff H.1).mpr ⟨_, rfl, (rdP_iff H.1).mpr ⟨_, rfl, cvVq g8 H.keepB fun h4 q4 => ?_⟩⟩
  obtain ⟨B4, H4, f4⟩ := q4
  have O4 := H4.st.obj.1
  refine (rdP_iff H4.1).mpr ⟨_, rfl, (wr_iff O4).mpr ⟨Nat.le_of_ble_eq_true rfl, ?_⟩⟩
  have f6 : Fr 262 267 h4 (h4.set 262 (.inr (8, [aP (some 1), aP (some 263), aP (some 264), aP (some 265), aP (some 266), aI (Int32.ofNat σ.2.1.length), aI σ.2.2.1, aI σ.2.2.2.1, aI r]))) := Fr.set (by omega) (by omega)
  have Q6 := H4.shm.fr f6 (by omega) (by omega)
  have ok6 : OkS _ M σ := Q6.ok
  have H6 := H4.state (H4.st.clr r) (Q6.mk (σ' := (σ.1, σ.2.1, σ.2.2.1, σ.2.2.2.1, r)) ok6 fun s hs => Q6.okv hs) f6
  have B6 := B4.fr f6 (by omega)
  refine cvIq H6.1 (s10_allFit H6) fun r8 h8 q8 => ?_
  obtain ⟨e8, H8, f8⟩ := q8
  have B8 := B6.fr f8 (by omega)
  have ok8 : OkS h8 M σ := ok6.fr f8 (by omega) (by omega)
  have ff : Fr 0 313 h h8 := ((f4.weak (by omega) (by omega)).trans (f6.weak (by omega) (by omega))).trans (f8.weak (by omega) (by omega))
  refine ⟨fun c8 => (rdP_iff H8.1).mpr ⟨_, rfl, (rdP_iff H8.1).mpr ⟨_, rfl, cvVq H8.hi.ad.1 (H8.save2 B8 ok8) fun h9 q9 => ?_⟩⟩, fun c8 => (rdP_iff H8.1).mpr ⟨_, rfl, (rdP_iff H8.1).mpr ⟨_, rfl, cvVq H8.st.obj.1 (H8.backB B8 ok8) fun h9 q9 => ?_⟩⟩⟩
  · obtain ⟨H9, f9⟩ := q9
    have B9 := B8.fr f9 (by omega)
    refine (rdP_iff H9.1).mpr ⟨_, rfl, (rdI_iff B9.obj.1).mpr ⟨_, rfl, ?_⟩⟩
    unfold cClr; rw [ifC_pos ⟨c1, c2⟩, if_pos (r01 e8 c8)]
    exact Cy.mk rfl H9 (ff.trans (f9.weak (by omega) (by omega)))
  · obtain ⟨H9, f9⟩ := q9
    unfold cClr; rw [ifC_pos ⟨c1, c2⟩, if_neg (r00 e8 c8)]
    exact Cy.mk rfl H9 (ff.trans (f9.weak (by omega) (by omega)))
noncomputable def cUndo (σ : SV) (vs : List SV) : Int32 × SV × List SV := ifC (vs = []) (-1000002, σ, vs) (Int32.ofNat (vs.length - 1), vs.getD (vs.length - 1) ([], [], 0, 0, 0), vs.dropLast)
theorem c10_undo (H : Plb h cs σ vs M) : sX10_undo E [aP (some 0)] h (Cy cs (cUndo σ vs).2.1 (cUndo σ vs).2.2 M h (cUndo σ vs).1) := by
  refine eX10_undo ?_
  unfold PX10_undo_0
  have A := H.hi.ad
  refine (rdP_iff H.1).mpr ⟨_, rfl, (rdI_iff A.1).mpr ⟨_, rfl, fun c => ?_, fun c => ?_⟩⟩
  · have hne : vs ≠ [] := fun q => c (by rw [q]; rfl)
    have hpos : 0 < vs.length := List.length_pos_iff.mpr hne
    have hm : vs.getD (vs.length - 1) ([], [], 0, 0, 0) ∈ vs := getD_mem _ (by omega)
    refine (rdP_iff H.1).mpr ⟨_, rfl, (rdP_iff H.1).mpr ⟨_, rfl, cvVq A.1 (s1_restore H.hi hne (s := 262) (by omega) H.st (H.shm.okv hm).shs) fun h6 q6 => ?_⟩⟩
    obtain ⟨HI, ST, h1, f1, f2⟩ := q6
    have ff : Fr 262 304 h h6 := (f1.weak (by omega) (by omega)).trans (f2.weak (by omega) (by omega))
    have Q : Shm h6 σ vs M := H.shm.fr ff (by omega) (by omega)
    have QQ : Shm h6 (vs.getD (vs.length - 1) ([], [], 0, 0, 0)) vs.dropLast M := Q.mk (Q.okv hm) fun s hs => Q.okv (List.dropLast_subset vs hs)
    have H6 : Plb h6 cs (vs.getD (vs.length - 1) ([], [], 0, 0, 0)) vs.dropLast M := by
      obtain ⟨h0, ⟨p, num, S, W, V, k1⟩, ⟨L, h2⟩, h3, h4, h5, ⟨σb, B⟩, h7, ⟨V2, k8⟩, ⟨S2, W2, h9⟩, ⟨g, h10⟩, ⟨bl, h11, h12⟩, h13⟩ := H
      have B1 := (B.fr f1 (by omega)).fr f2 (by omega)
      exact ⟨(ff.2 _ (by omega)).trans h0, ⟨p, num, S, W, V, k1.fr ff (by omega)⟩, ⟨L, h2.fr ff (by omega)⟩, h3.fr ff (by omega), h4.fr ff (by omega), ST, ⟨σb, B1⟩, HI, ⟨V2, k8.fr ff (by omega)⟩, ⟨S2, W2, h9.fr ff (by omega)⟩, ⟨g, h10.fr ff (by omega)⟩, ⟨bl, (ff.2 _ (by omega)).trans h11, h12⟩, QQ⟩
    refine (rdP_iff H6.1).mpr ⟨_, rfl, (rdI_iff HI.ad.1).mpr ⟨_, rfl, ?_⟩⟩
    unfold cUndo; rw [ifC_neg hne]
    exact Cy.mk (by rw [List.length_dropLast]) H6 (ff.weak (by omega) (by omega))
  · have he : vs = [] := List.eq_nil_of_length_eq_zero (i32_inj (n := 0) (by omega) (by omega) c)
    unfold cUndo; rw [ifC_pos he]
    exact Cy.mk rfl H Fr.refl
theorem LivS.erase {sl : List Nat} {its : List IT} {r : Int32 × Int32 × Int32} {i a : Nat} (ha : LivS (sl, its.eraseIdx i, r) a) : LivS (sl, its, r) a := by
  rcases ha with ha | ⟨it, h1, h2⟩
  · exact Or.inl ha
  · exact Or.inr ⟨it, List.mem_of_mem_eraseIdx h1, h2⟩
noncomputable def cRemove (σ : SV) (vs : List SV) (i : Int32) : Int32 × SV × List SV := ifC (Itm σ i) (Int32.ofNat (σ.2.1.length - 1), (σ.1, σ.2.1.eraseIdx (nx i), σ.2.2), push6 vs σ) (-1000001, σ, vs)
theorem c10_remove (H : Plb h cs σ vs M) (i : Int32) : sX10_removeItem E [aP (some 0), aI i] h (Cy cs (cRemove σ vs i).2.1 (cRemove σ vs i).2.2 M h (cRemove σ vs i).1) := by
  refine eX10_removeItem ?_
  unfold PX10_removeItem_0
  refine cvI H.1 (s10_isItem H i) ⟨fun c => ?_, fun c => ?_⟩
  · have hi := ifC1 rfl c
    have hn := hi.nat H.n8
    refine (rdP_iff H.1).mpr ⟨_, rfl, (rdP_iff H.1).mpr ⟨_, rfl, cvVq H.hi.ad.1 H.save fun h6 q6 => ?_⟩⟩
    obtain ⟨H6, f6⟩ := q6
    have sp := t8_remove (E := E) H6.st hn.2 fun j hj => (H6.item hj).1.ad
    rw [← hn.1] at sp
    refine (rdP_iff H6.1).mpr ⟨_, rfl, cvVq H6.st.obj.1 sp fun h9 q9 => ?_⟩
    obtain ⟨S9, f9⟩ := q9
    have Q := H6.shm.fr f9 (by omega) (by omega)
    have H9 := H6.state S9 (Q.mk ⟨fun a ha => Q.ok.1 a (LivS.erase ha), Q.ok.2.1, Nat.le_trans (by rw [List.length_eraseIdx]; split <;> omega) Q.ok.2.2.1, fun it h1 => Q.ok.2.2.2 it (List.mem_of_mem_eraseIdx h1)⟩ fun s hs => Q.okv hs) f9
    refine (rdP_iff H9.1).mpr ⟨_, rfl, (rdI_iff H9.st.obj.1).mpr ⟨_, rfl, ?_⟩⟩
    unfold cRemove; rw [ifC_pos hi]
    refine Cy.mk ?_ H9 ((f6.weak (by omega) (by omega)).trans (f9.weak (by omega) (by omega)))
    dsimp only
    rw [List.length_eraseIdx, if_pos hn.2]
  · unfold cRemove; rw [ifC_neg (ifC0 rfl c)]
    exact Cy.mk rfl H Fr.refl
end CH
