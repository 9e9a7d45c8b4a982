/-! placing -/
def fitS (M : Nat → SH) (σ : SV) (S : SH) (x y : Int32) : Bool := freeP (obsP M σ.2.1 S σ.2.2.2.2 (-1)) (bxP S σ.2.2.1 σ.2.2.2.1) x y
def blS (M : Nat → SH) (σ : SV) (S : SH) : Option (Nat × Nat) := blP (obsP M σ.2.1 S σ.2.2.2.2 (-1)) (bxP S σ.2.2.1 σ.2.2.2.1)
def plS (σ : SV) (S : SH) (k : Nat × Nat) : PT := atB (bxP S σ.2.2.1 σ.2.2.2.1) k
def addI (σ : SV) (q : Nat) (v : PT) : SV := (σ.1, σ.2.1 ++ [(q, v.1, v.2)], σ.2.2)
section PC
variable {E : EV} {h : AH} {cs : List Int32} {σ : SV} {vs : List SV} {M : Nat → SH}
theorem s10_fits (H : Plb h cs σ vs M) {q : Nat} {S : SH} (G : ShAt h q S) (hS : Pok S) (dq : q + 4 ≤ 30 ∨ 262 ≤ q) (x y : Int32) : sX10_fits E [aP (some 0), aP (some q), aI x, aI y] h (kI fun r h' => r = ifC (S ≠ [] ∧ fitS M σ S x y = true) 1 0 ∧ Plb h' cs σ vs M ∧ Fr 30 262 h h') := by
  refine eX10_fits ?_
  unfold PX10_fits_0
  obtain ⟨_, g6⟩ := G.ad
  obtain ⟨_, g4⟩ := H.p4
  refine cvI g6 (s6_isEmpty G) ⟨fun c => (rdP_iff H.1).mpr ⟨_, rfl, (rdP_iff H.1).mpr ⟨_, rfl, ?_⟩⟩, fun c => ⟨_, rfl, (ifC_neg fun z => z.1 (r01 rfl c)).symm, H, Fr.refl⟩⟩
  have hne := r00 rfl c
  refine cvVq g4 (H.prep G hS (flat_ne hne hS) dq (-1)) fun h6 q6 => ?_
  have H6 := H.places ⟨_, _, q6.1⟩ q6.2
  obtain ⟨fx, fy, X⟩ := q6.1
  refine (rdP_iff H6.1).mpr ⟨_, rfl, cvI X.1 (s4_isFree X H.obOne x y) ⟨?_, _, rfl, ?_, H6, q6.2⟩⟩
  · split
    · exact Or.inr rfl
    · exact Or.inl rfl
  · by_cases z : fitS M σ S x y = true
    · rw [ifC_pos ⟨hne, z⟩]; exact if_pos z
    · rw [ifC_neg fun w => z w.2]; exact if_neg z
theorem LivS.add {sl : List Nat} {its : List IT} {r : Int32 × Int32 × Int32} {it : IT} {a : Nat} (ha : LivS (sl, its ++ [it], r) a) : a = it.1 ∨ LivS (sl, its, r) a := by
  rcases ha with ha | ⟨i2, h1, h2⟩
  · exact Or.inr (Or.inl ha)
  · rcases List.mem_append.mp h1 with q | q
    · exact Or.inr (Or.inr ⟨i2, q, h2⟩)
    · rw [List.mem_singleton] at q
      subst q; exact Or.inl h2.symm
theorem OkS.add (H : OkS h M σ) {q : Nat} {v : PT} (hn : σ.2.1.length < 8) (hq : ShAt h q (M q) ∧ Pok (M q) ∧ (q = 1 ∨ 313 ≤ q)) (hne : M q ≠ []) : OkS h M (addI σ q v) :=
  ⟨fun a ha => by
    rcases LivS.add ha with rfl | z
    · exact hq
    · exact H.1 a z, H.2.1, by unfold addI; rw [List.length_append, List.length_singleton]; omega, fun it hi => by
    rcases List.mem_append.mp hi with z | z
    · exact H.2.2.2 it z
    · rw [List.mem_singleton] at z
      rw [z]; exact hne⟩
theorem s10_add (H : Plb h cs σ vs M) (hn : σ.2.1.length < 8) {q : Nat} (hq : ShAt h q (M q) ∧ Pok (M q) ∧ (q = 1 ∨ 313 ≤ q)) (hne : M q ≠ []) (x y : Int32) : sX10_addItem E [aP (some 0), aP (some q), aI x, aI y] h (kI fun r h' => r = Int32.ofNat σ.2.1.length ∧ Plb h' cs (addI σ q (x, y)) (push6 vs σ) M ∧ Fr 262 304 h h') := by
  refine eX10_addItem ?_
  unfold PX10_addItem_0
  refine (rdP_iff H.1).mpr ⟨_, rfl, (rdP_iff H.1).mpr ⟨_, rfl, cvVq H.hi.ad.1 H.save fun h4 q4 => ?_⟩⟩
  obtain ⟨H4, f4⟩ := q4
  have G4 := hq.1.fr f4 (by rcases hq.2.2 with z | z <;> omega)
  refine (rdP_iff H4.1).mpr ⟨_, rfl, cvVq H4.st.obj.1 (t8_add H4.st hn G4.ad x y) fun h7 q7 => ?_⟩
  obtain ⟨S7, f7⟩ := q7
  have Q := H4.shm.fr f7 (by omega) (by omega)
  have H7 := H4.state (σ' := addI σ q (x, y)) S7 (Q.mk (Q.ok.add hn ⟨G4.fr f7 (by rcases hq.2.2 with z | z <;> omega), hq.2⟩ hne) fun s hs => Q.okv hs) f7
  refine (rdP_iff H7.1).mpr ⟨_, rfl, (rdI_iff H7.st.obj.1).mpr ⟨_, rfl, _, rfl, ?_, H7, (f4.weak (by omega) (by omega)).trans (f7.weak (by omega) (by omega))⟩⟩
  show Int32.ofNat (σ.2.1 ++ [(q, x, y)]).length - 1 = _
  rw [List.length_append, List.length_singleton, i32_pred (by omega) (by omega)]; rfl
noncomputable def cErr (M : Nat → SH) (σ : SV) (x : Int32) : Int32 := ifC (Slt x) (ifC (slM M σ (nx x) = []) (-1000002) (if σ.2.1.length < 8 then 0 else -1000003)) (-1000001)
theorem s10_err (H : Plb h cs σ vs M) (x : Int32) : sX10_placingError E [aP (some 0), aI x] h (kI fun r h' => r = cErr M σ x ∧ h' = h) := by
  refine eX10_placingError ?_
  unfold PX10_placingError_0
  have h8 := H.n8
  refine csI (s10_isSlot x) ⟨fun c => cvI H.1 (u10_empty H (ifC1 rfl c)) ⟨fun c2 => (rdP_iff H.1).mpr ⟨_, rfl, (rdI_iff H.st.obj.1).mpr ⟨_, rfl, fun c3 => ⟨_, rfl, ?_, rfl⟩, fun c3 => ⟨_, rfl, ?_, rfl⟩⟩⟩, fun c2 => ⟨_, rfl, ?_, rfl⟩⟩, fun c => ⟨_, rfl, (ifC_neg (ifC0 rfl c)).symm, rfl⟩⟩ <;> unfold cErr
  · rw [ifC_pos (ifC1 rfl c), ifC_neg (r00 rfl c2), if_pos ((i32_ltn (j := 8) (by omega) (by omega)).mp c3)]
  · rw [ifC_pos (ifC1 rfl c), ifC_neg (r00 rfl c2), if_neg (mt (i32_ltn (j := 8) (by omega) (by omega)).mpr c3)]
  · rw [ifC_pos (ifC1 rfl c), ifC_pos (r01 rfl c2)]
theorem cErr0 {x : Int32} (h : cErr M σ x = 0) : Slt x ∧ slM M σ (nx x) ≠ [] ∧ σ.2.1.length < 8 := by
  unfold cErr at h
  by_cases a : Slt x
  · rw [ifC_pos a] at h
    by_cases b : slM M σ (nx x) = []
    · rw [ifC_pos b] at h; exact absurd h (by decide)
    · rw [ifC_neg b] at h
      by_cases c : σ.2.1.length < 8
      · exact ⟨a, b, c⟩
      · rw [if_neg c] at h; exact absurd h (by decide)
  · rw [ifC_neg a] at h; exact absurd h (by decide)
noncomputable def cPlace (M : Nat → SH) (σ : SV) (vs : List SV) (x u v : Int32) : Int32 × SV × List SV := ifC (Slt x ∧ Nea u ∧ Nea v) (ifC (slM M σ (nx x) ≠ [] ∧ fitS M σ (slM M σ (nx x)) u v = true) (if σ.2.1.length < 8 then (Int32.ofNat σ.2.1.length, addI σ (σ.1.getD (nx x) 0) (u, v), push6 vs σ) else (-1000003, σ, vs)) (-1000002, σ, vs)) (-1000001, σ, vs)
theorem c10_place (H : Plb h cs σ vs M) (x u v : Int32) : sX10_place E [aP (some 0), aI x, aI u, aI v] h (Cy cs (cPlace M σ vs x u v).2.1 (cPlace M σ vs x u v).2.2 M h (cPlace M σ vs x u v).1) := by
  refine eX10_place ?_
  unfold PX10_place_0
  have h8 := H.n8
  have no : ¬ (Slt x ∧ Nea u ∧ Nea v) → Cy cs (cPlace M σ vs x u v).2.1 (cPlace M σ vs x u v).2.2 M h (cPlace M σ vs x u v).1 (some (aI (-1000001))) h := fun q => by
    unfold cPlace; rw [ifC_neg q]; exact Cy.mk rfl H Fr.refl
  refine csI (s10_isSlot x) ⟨fun c => no fun q => ifC0 rfl c q.1, fun c => csI (s10_isNear u) ⟨fun c2 => no fun q => ifC0 rfl c2 q.2.1, fun c2 => csI (s10_isNear v) ⟨fun c3 => (rdP_iff H.1).mpr ⟨_, rfl, ?_⟩, fun c3 => no fun q => ifC0 rfl c3 q.2.2⟩⟩⟩
  have h1 : Slt x ∧ Nea u ∧ Nea v := ⟨ifC1 rfl c, ifC1 rfl c2, ifC1 rfl c3⟩
  have d := (H.sl h1.1).2.2
  refine cvP H.st.obj.1 (u8_slot H h1.1) (cvIq H.1 (s10_fits H (H.sl h1.1).1 (H.sl h1.1).2.1 (by omega) u v) fun r h9 q9 => ?_)
  obtain ⟨e9, H9, f9⟩ := q9
  refine ⟨fun c9 => ?_, fun c9 => ?_⟩
  · have hf := ifC1 e9 c9
    refine (rdP_iff H9.1).mpr ⟨_, rfl, (rdI_iff H9.st.obj.1).mpr ⟨_, rfl, fun c10 => ?_, fun c10 => ?_⟩⟩
    · have hn : σ.2.1.length < 8 := (i32_ltn (j := 8) (by omega) (by omega)).mp c10
      refine (rdP_iff H9.1).mpr ⟨_, rfl, cvP H9.st.obj.1 (u8_slot H9 h1.1) (cvIq H9.1 (s10_add H9 hn (H9.sl h1.1) hf.1 u v) fun r h11 q11 => ?_)⟩
      obtain ⟨e11, H11, f11⟩ := q11
      unfold cPlace; rw [ifC_pos h1, ifC_pos hf, if_pos hn]
      exact Cy.mk e11.symm H11 ((f9.weak (by omega) (by omega)).trans (f11.weak (by omega) (by omega)))
    · have hn : ¬ σ.2.1.length < 8 := mt (i32_ltn (j := 8) (by omega) (by omega)).mpr c10
      unfold cPlace; rw [ifC_pos h1, ifC_pos hf, if_neg hn]
      exact Cy.mk rfl H9 (f9.weak (by omega) (by omega))
  · unfold cPlace; rw [ifC_pos h1, ifC_neg (ifC0 e9 c9)]
    exact Cy.mk rfl H9 (f9.weak (by omega) (by omega))
noncomputable def cBl (M : Nat → SH) (σ : SV) (vs : List SV) (q : Nat) : Int32 × SV × List SV := match blS M σ (M q) with
  | none => (-1000009, σ, vs)
  | some k => (Int32.ofNat σ.2.1.length, addI σ q (plS σ (M q) k), push6 vs σ)
theorem s10_addBL (H : Plb h cs σ vs M) (hn : σ.2.1.length < 8) {q : Nat} (hq : ShAt h q (M q) ∧ Pok (M q) ∧ (q = 1 ∨ 313 ≤ q)) (hne : M q ≠ []) (hb : SmB (bxP (M q) σ.2.2.1 σ.2.2.2.1)) : sX10_addAtBottomLeft E [aP (some 0), aP (some q)] h (Cy cs (cBl M σ vs q).2.1 (cBl M σ vs q).2.2 M h (cBl M σ vs q).1) := by
  refine eX10_addAtBottomLeft ?_
  unfold PX10_addAtBottomLeft_0
  obtain ⟨_, g4⟩ := H.p4
  refine (rdP_iff H.1).mpr ⟨_, rfl, (rdP_iff H.1).mpr ⟨_, rfl, cvVq g4 (H.prep hq.1 hq.2.1 (flat_ne hne hq.2.1) (by have := hq.2.2; omega) (-1)) fun h4 q4 => ?_⟩⟩
  have H4 := H.places ⟨_, _, q4.1⟩ q4.2
  have G4 := hq.1.fr q4.2 (by have := hq.2.2; omega)
  obtain ⟨fx, fy, X⟩ := q4.1
  refine (rdP_iff H4.1).mpr ⟨_, rfl, cvIq X.1 (s4_find X H.obOne hb) fun r h7 q7 => ?_⟩
  cases hbl : blS M σ (M q) with
  | none =>
    obtain ⟨e7, rfl⟩ := q7.1 hbl
    refine ⟨fun c => absurd e7 c, fun _ => ?_⟩
    unfold cBl; rw [hbl]
    exact Cy.mk rfl H4 (q4.2.weak (by omega) (by omega))
  | some k =>
    obtain ⟨e7, X7, f7⟩ := q7.2 k hbl
    have H7 := H4.places ⟨_, _, _, _, X7⟩ (f7.weak (by omega) (by omega))
    refine ⟨fun _ => ?_, fun c => absurd (e7.symm.trans c) (by decide)⟩
    refine (rdP_iff H7.1).mpr ⟨_, rfl, (rdI_iff X7.1).mpr ⟨_, rfl, (rdP_iff H7.1).mpr ⟨_, rfl, (rdI_iff X7.1).mpr ⟨_, rfl, cvIq H7.1 (s10_add H7 hn ⟨G4.fr f7 (by have := hq.2.2; omega), hq.2⟩ hne _ _) fun r12 h13 q13 => ?_⟩⟩⟩⟩
    obtain ⟨e13, H13, f13⟩ := q13
    unfold cBl; rw [hbl]
    exact Cy.mk e13.symm H13 (((q4.2.weak (by omega) (by omega)).trans (f7.weak (by omega) (by omega))).trans (f13.weak (by omega) (by omega)))
noncomputable def cPlaceBL (M : Nat → SH) (σ : SV) (vs : List SV) (x : Int32) : Int32 × SV × List SV := if cErr M σ x = 0 then cBl M σ vs (σ.1.getD (nx x) 0) else (cErr M σ x, σ, vs)
theorem c10_placeBL (H : Plb h cs σ vs M) (x : Int32) (hb : Slt x → slM M σ (nx x) ≠ [] → SmB (bxP (slM M σ (nx x)) σ.2.2.1 σ.2.2.2.1)) : sX10_placeBottomLeft E [aP (some 0), aI x] h (Cy cs (cPlaceBL M σ vs x).2.1 (cPlaceBL M σ vs x).2.2 M h (cPlaceBL M σ vs x).1) := by
  refine eX10_placeBottomLeft ?_
  unfold PX10_placeBottomLeft_0
  refine cvI H.1 (s10_err H x) ⟨fun c => (rdP_iff H.1).mpr ⟨_, rfl, ?_⟩, fun c => ?_⟩
  · obtain ⟨hs, hne, hn⟩ := cErr0 c
    refine cvP H.st.obj.1 (u8_slot H hs) (cvIq H.1 (s10_addBL H hn (H.sl hs) hne (hb hs hne)) fun r h7 q7 => ?_)
    unfold cPlaceBL; rw [if_pos c]
    exact ⟨_, rfl, q7⟩
  · unfold cPlaceBL; rw [if_neg c]
    exact Cy.mk rfl H Fr.refl
/-! turns -/
def tnS (t : Int32) (S : SH) : SH := S.map fun P => P.map (trP t)
theorem tn_len {t : Int32} {S : SH} : (tnS t S).length = S.length := List.length_map ..
theorem tn_get {t : Int32} {S : SH} {i : Nat} : (tnS t S).getD i [] = (S.getD i []).map (trP t) := by
  unfold tnS
  by_cases h : i < S.length
  · simp [List.getD_eq_getElem?_getD, h]
  · simp [List.getD_eq_getElem?_getD, List.getElem?_eq_none (Nat.le_of_not_lt h)]
theorem tn_ok {t : Int32} {S : SH} (h : Pok S) : Pok (tnS t S) := fun i hi => by
  rw [tn_get, List.length_map]
  rw [tn_len] at hi
  exact h i hi
theorem tn_ne {t : Int32} {S : SH} (h : S ≠ []) : tnS t S ≠ [] := fun z => h (List.map_eq_nil_iff.mp z)
theorem tn_0 {S : SH} : tnS 0 S = S := by
  unfold tnS
  rw [show (fun P : List PT => P.map (trP 0)) = id from funext fun P => tr0, List.map_id]
abbrev BT : Type := Int32 × Int32 × Int32
def btStep (M : Nat → SH) (σ : SV) (S : SH) (b : BT) (t : Nat) : BT := match blS M σ (tnS (Int32.ofNat t) S) with
  | none => b
  | some k => (fun top right : Int32 => if b.1 = 4 ∨ top < b.2.1 ∨ top = b.2.1 ∧ right < b.2.2 then (Int32.ofNat t, top, right) else b) ((plS σ (tnS (Int32.ofNat t) S) k).2 + (bxS (tnS (Int32.ofNat t) S)).2.2.2) ((plS σ (tnS (Int32.ofNat t) S) k).1 + (bxS (tnS (Int32.ofNat t) S)).2.2.1)
def btP (M : Nat → SH) (σ : SV) (S : SH) (t : Nat) : BT := (List.range t).foldl (btStep M σ S) (4, 0, 0)
theorem btP_succ {S : SH} {t : Nat} : btP M σ S (t + 1) = btStep M σ S (btP M σ S t) t := by unfold btP; rw [fold_succ]
theorem s10_bestTurns (H : Plb h cs σ vs M) {q : Nat} {S : SH} (G : ShAt h q S) (hS : Pok S) (hne : S ≠ []) (dq : q = 1 ∨ 313 ≤ q) (hb : ∀ t, t < 4 → SmB (bxP (tnS (Int32.ofNat t) S) σ.2.2.1 σ.2.2.2.1)) : sX10_bestTurns E [aP (some 0), aP (some q)] h (kI fun r h' => r = (btP M σ S 4).1 ∧ Plb h' cs σ vs M ∧ Fr 30 311 h h') := by
  refine uX10_bestTurns (fun m h' l0 l1 l2 l3 l4 l5 => ∃ t, m = 4 - t ∧ t ≤ 4 ∧ l0 = some 0 ∧ l1 = some q ∧ (l2, l3, l4) = btP M σ S t ∧ l5 = Int32.ofNat t ∧ Plb h' cs σ vs M ∧ Fr 30 311 h h') ⟨_, 0, rfl, Nat.zero_le _, rfl, rfl, rfl, rfl, H, Fr.refl⟩ ?_
  rintro m h' l0 l1 l2 l3 l4 l5 ⟨t, rfl, ht, rfl, rfl, eb, rfl, H', f⟩
  unfold PX10_bestTurns_10
  refine ⟨fun c => ?_, fun c => (rdP_iff H'.1).mpr ⟨_, rfl, ?_⟩⟩
  · have : 4 ≤ t := (i32_le (i := 4) (by omega) (by omega)).mp c
    have : t = 4 := by omega
    subst this
    exact ⟨_, rfl, congrArg (·.1) eb, H', f⟩
  · have ht4 : t < 4 := by have := mt (i32_le (i := 4) (j := t) (by omega) (by omega)).mpr c; omega
    obtain ⟨S0, W0, T0⟩ := H'.2.2.2.2.2.2.2.2.2.1
    obtain ⟨_, g6⟩ := T0.ad
    have G' := G.fr f (by omega)
    refine cvVq g6 (s6_setTurned T0 G' (by omega) (Int32.ofNat t)) fun h3 q3 => ?_
    obtain ⟨T3, f3⟩ := q3
    have T3 : ShAt h3 307 (tnS (Int32.ofNat t) S) := T3
    have H3 := H'.turned ⟨_, _, T3⟩ f3
    obtain ⟨_, g4⟩ := H3.p4
    refine (rdP_iff H3.1).mpr ⟨_, rfl, (rdP_iff H3.1).mpr ⟨_, rfl, (rdP_iff H3.1).mpr ⟨_, rfl, cvVq g4 (H3.prep T3 (tn_ok hS) (flat_ne (tn_ne hne) (tn_ok hS)) (by omega) (-1)) fun h8 q8 => ?_⟩⟩⟩
    have H8 := H3.places ⟨_, _, q8.1⟩ q8.2
    have T8 := T3.fr q8.2 (by omega)
    obtain ⟨fx, fy, X⟩ := q8.1
    have ff : Fr 30 311 h h8 := (f.trans (f3.weak (by omega) (by omega))).trans (q8.2.weak (by omega) (by omega))
    refine (rdP_iff H8.1).mpr ⟨_, rfl, cvIq X.1 (s4_find X H3.obOne (hb t ht4)) fun r h11 q11 => ?_⟩
    cases hbl : blS M σ (tnS (Int32.ofNat t) S) with
    | none =>
      obtain ⟨e11, rfl⟩ := q11.1 hbl
      refine ⟨fun _ => ⟨4 - (t + 1), by omega, t + 1, rfl, ht4, rfl, rfl, ?_, i32_s t, H8, ff⟩, fun c => absurd e11 c⟩
      rw [btP_succ, ← eb]; unfold btStep; rw [hbl]
    | some k =>
      obtain ⟨e11, X11, f11⟩ := q11.2 k hbl
      have H11 := H8.places ⟨_, _, _, _, X11⟩ (f11.weak (by omega) (by omega))
      have T11 := T8.fr f11 (by omega)
      have f12 : Fr 30 311 h h11 := ff.trans (f11.weak (by omega) (by omega))
      obtain ⟨fs, g7, b5, b6, b7, b8⟩ := sh_box T11 (flat_ne (tn_ne hne) (tn_ok hS))
      refine ⟨fun c => absurd (e11.symm.trans c) (by decide), fun _ => (rdP_iff H11.1).mpr ⟨_, rfl, (rdI_iff X11.1).mpr ⟨_, rfl, (rdP_iff H11.1).mpr ⟨_, rfl, (rdI_iff g7).mpr ⟨_, b8, fun v16 e16 => (rdP_iff H11.1).mpr ⟨_, rfl, (rdI_iff X11.1).mpr ⟨_, rfl, (rdP_iff H11.1).mpr ⟨_, rfl, (rdI_iff g7).mpr ⟨_, b7, fun v21 e21 => ?_⟩⟩⟩⟩⟩⟩⟩⟩⟩
      have e16 : v16 = (plS σ (tnS (Int32.ofNat t) S) k).2 + (bxS (tnS (Int32.ofNat t) S)).2.2.2 := e16
      have e21 : v21 = (plS σ (tnS (Int32.ofNat t) S) k).1 + (bxS (tnS (Int32.ofNat t) S)).2.2.1 := e21
      have es : btP M σ S (t + 1) = (if l2 = 4 ∨ v16 < l3 ∨ v16 = l3 ∧ v21 < l4 then (Int32.ofNat t, v16, v21) else (l2, l3, l4)) := by
        rw [btP_succ, ← eb, e16, e21]; unfold btStep; rw [hbl]
      have yes : (l2 = 4 ∨ v16 < l3 ∨ v16 = l3 ∧ v21 < l4) → PX10_bestTurns_110 E (kI fun r h' => r = (btP M σ S 4).1 ∧ Plb h' cs σ vs M ∧ Fr 30 311 h h') (fun h' l0 l1 l2 l3 l4 l5 => ∃ m', m' < 4 - t ∧ ∃ t, m' = 4 - t ∧ t ≤ 4 ∧ l0 = some 0 ∧ l1 = some q ∧ (l2, l3, l4) = btP M σ S t ∧ l5 = Int32.ofNat t ∧ Plb h' cs σ vs M ∧ Fr 30 311 h h') h11 (some 0) (some q) (Int32.ofNat t) v16 v21 := fun z => by
        unfold PX10_bestTurns_110
        exact ⟨4 - (t + 1), by omega, t + 1, rfl, ht4, rfl, rfl, by rw [es, if_pos z], i32_s t, H11, f12⟩
      have no : ¬ (l2 = 4 ∨ v16 < l3 ∨ v16 = l3 ∧ v21 < l4) → ∃ m', m' < 4 - t ∧ ∃ t_1, m' = 4 - t_1 ∧ t_1 ≤ 4 ∧ some 0 = some 0 ∧ some q = some q ∧ (l2, l3, l4) = btP M σ S t_1 ∧ Int32.ofNat t + 1 = Int32.ofNat t_1 ∧ Plb h11 cs σ vs M ∧ Fr 30 311 h h11 := fun z =>
        ⟨4 - (t + 1), by omega, t + 1, rfl, ht4, rfl, rfl, by rw [es, if_neg z], i32_s t, H11, f12⟩
      exact ⟨fun z => yes (Or.inl z), fun z1 => ⟨fun z => yes (Or.inr (Or.inl z)), fun z2 => ⟨fun z3 => no fun w => w.elim z1 fun w => w.elim z2 fun w => z3 w.1, fun z3 => ⟨fun z4 => no fun w => w.elim z1 fun w => w.elim z2 fun w => i32_not_lt.mpr z4 w.2, fun z4 => yes (Or.inr (Or.inr ⟨z3, i32_not_le.mp z4⟩))⟩⟩⟩⟩
end PC
