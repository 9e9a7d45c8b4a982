/-! sliding, compaction, layouts -/
def setI (σ : SV) (k : Nat) (v : PT) : SV := (σ.1, σ.2.1.set k ((itA σ.2.1 k).1, v.1, v.2), σ.2.2)
def mvGo (Os : List (List PT)) (bx : BX) (dx dy : Int32) : Nat → Int32 → Int32 → Nat × PT
  | 0, x, y => (0, x, y)
  | t + 1, x, y => if freeP Os bx (x + dx) (y + dy) = true then ((mvGo Os bx dx dy t (x + dx) (y + dy)).1 + 1, (mvGo Os bx dx dy t (x + dx) (y + dy)).2) else (0, x, y)
theorem mvGo_succ {Os : List (List PT)} {bx : BX} {dx dy : Int32} {t : Nat} {x y : Int32} : mvGo Os bx dx dy (t + 1) x y = if freeP Os bx (x + dx) (y + dy) = true then ((mvGo Os bx dx dy t (x + dx) (y + dy)).1 + 1, (mvGo Os bx dx dy t (x + dx) (y + dy)).2) else (0, x, y) := rfl
theorem mv_eta {Os : List (List PT)} {bx : BX} {dx dy : Int32} {t : Nat} {x y : Int32} : (0 + (mvGo Os bx dx dy t x y).1, (mvGo Os bx dx dy t x y).2) = mvGo Os bx dx dy t x y := by rw [Nat.zero_add]
def mvN (Os : List (List PT)) (bx : BX) (d : Int32) (x y : Int32) : Nat × PT := mvGo Os bx (dirxF (nx d)) (diryF (nx d)) 1000000 x y
theorem LivS.setI {σ : SV} {k a : Nat} {v : PT} (hk : k < σ.2.1.length) (ha : LivS (setI σ k v) a) : LivS σ a := by
  rcases ha with ha | ⟨it, h1, h2⟩
  · exact Or.inl ha
  · rcases List.mem_or_eq_of_mem_set h1 with q | q
    · exact Or.inr ⟨it, q, h2⟩
    · refine Or.inr ⟨itA σ.2.1 k, getD_mem (0, 0, 0) hk, ?_⟩
      rw [← h2, q]
theorem setI_len {σ : SV} {k : Nat} {v : PT} : (setI σ k v).2.1.length = σ.2.1.length := List.length_set ..
section MV
variable {E : EV} {h : AH} {cs : List Int32} {σ : SV} {vs : List SV} {M : Nat → SH}
theorem OkS.setI (H : OkS h M σ) {k : Nat} {v : PT} (hk : k < σ.2.1.length) : OkS h M (setI σ k v) :=
  ⟨fun a ha => H.1 a (ha.setI hk), H.2.1, by rw [setI_len]; exact H.2.2.1, fun it hi => by
    rcases List.mem_or_eq_of_mem_set hi with q | q
    · exact H.2.2.2 it q
    · have := H.2.2.2 (itA σ.2.1 k) (getD_mem (0, 0, 0) hk)
      rw [q]; exact this⟩
theorem s10_move (H : Plb h cs σ vs M) {Os : List (List PT)} {bx : BX} {fx fy : Int32} (X : PlX h 30 Os bx fx fy) (hO : One Os) {k : Nat} (hk : k < σ.2.1.length) {d : Int32} (hd : Dirn d) : sX10_moveItem E [aP (some 0), aI (Int32.ofNat k), aI d] h (kI fun r h' => r = Int32.ofNat (mvN Os bx d (iX σ k) (iY σ k)).1 ∧ Plb h' cs (setI σ k (mvN Os bx d (iX σ k) (iY σ k)).2) vs M ∧ Fr 262 267 h h') := by
  refine uX10_moveItem (fun m h' l0 l1 l3 l4 l5 l6 l7 => ∃ j, j + m = 1000000 ∧ h' = h ∧ l0 = some 0 ∧ l1 = Int32.ofNat k ∧ l3 = dirxF (nx d) ∧ l4 = diryF (nx d) ∧ l5 = Int32.ofNat j ∧ (j + (mvGo Os bx (dirxF (nx d)) (diryF (nx d)) m l6 l7).1, (mvGo Os bx (dirxF (nx d)) (diryF (nx d)) m l6 l7).2) = mvN Os bx d (iX σ k) (iY σ k)) ?_ ?_
  · unfold PX10_moveItem_0
    have O := H.st.obj.1
    refine csI (s10_dirX hd) (csI (s10_dirY hd) ((rdP_iff H.1).mpr ⟨_, rfl, cvI O (t8_x H.st hk) ((rdP_iff H.1).mpr ⟨_, rfl, cvI O (t8_y H.st hk) ⟨1000000, 0, by omega, rfl, rfl, rfl, rfl, rfl, rfl, ?_⟩⟩)⟩))
    unfold mvN iX iY
    exact mv_eta
  · rintro m h' l0 l1 l3 l4 l5 l6 l7 ⟨j, hj, rfl, rfl, rfl, rfl, rfl, rfl, e⟩
    have fin : (0, l6, l7) = mvGo Os bx (dirxF (nx d)) (diryF (nx d)) m l6 l7 → PX10_moveItem_80 E (kI fun r h'' => r = Int32.ofNat (mvN Os bx d (iX σ k) (iY σ k)).1 ∧ Plb h'' cs (setI σ k (mvN Os bx d (iX σ k) (iY σ k)).2) vs M ∧ Fr 262 267 h' h'') h' (some 0) (Int32.ofNat k) (Int32.ofNat j) l6 l7 := fun z => by
      rw [← z] at e
      rw [← e]
      unfold PX10_moveItem_80
      refine (rdP_iff H.1).mpr ⟨_, rfl, cvVq H.st.obj.1 (t8_setPlace H.st hk l6 l7) fun h3 q3 => ⟨_, rfl, rfl, ?_, q3.2⟩⟩
      have Q := H.shm.fr q3.2 (by omega) (by omega)
      exact H.state (σ' := setI σ k (l6, l7)) q3.1 (Q.mk (Q.ok.setI hk) fun s hs => Q.okv hs) q3.2
    unfold PX10_moveItem_34
    refine ⟨fun c => ?_, fun c => (rdP_iff H.1).mpr ⟨_, rfl, cvI X.1 (s4_isFree X hO _ _) ⟨fun c2 => ?_, fun c2 v4 e4 v5 e5 => ?_⟩⟩⟩
    · have : 1000000 ≤ j := (i32_le (i := 1000000) (by omega) (by omega)).mp c
      have : m = 0 := by omega
      subst this
      exact fin rfl
    · refine fin ?_
      cases m with
      | zero => rfl
      | succ m => rw [mvGo_succ, if_neg (r00 rfl c2)]
    · have : ¬ 1000000 ≤ j := fun q => c ((i32_le (i := 1000000) (j := j) (by omega) (by omega)).mpr q)
      obtain ⟨t, rfl⟩ : ∃ t, m = t + 1 := ⟨m - 1, by omega⟩
      rw [mvGo_succ, if_pos (r01 rfl c2)] at e
      refine ⟨t, by omega, j + 1, by omega, rfl, rfl, rfl, rfl, rfl, i32_s j, ?_⟩
      rw [← e, e4, e5]
      dsimp only
      rw [Nat.add_assoc, Nat.add_comm 1]
def mvO (M : Nat → SH) (σ : SV) (k : Nat) : List (List PT) := obsP M σ.2.1 (itM M σ k) σ.2.2.2.2 (Int32.ofNat k)
def mvB (M : Nat → SH) (σ : SV) (k : Nat) : BX := bxP (itM M σ k) σ.2.2.1 σ.2.2.2.1
def mvI (M : Nat → SH) (σ : SV) (k : Nat) (d : Int32) : Nat × PT := mvN (mvO M σ k) (mvB M σ k) d (iX σ k) (iY σ k)
noncomputable def cSlideI (M : Nat → SH) (σ : SV) (vs : List SV) (i d : Int32) : Int32 × SV × List SV := ifC (Itm σ i ∧ Dirn d) (if Int32.ofNat (mvI M σ (nx i) d).1 = 0 then (-1000009, setI σ (nx i) (mvI M σ (nx i) d).2, vs) else (Int32.ofNat (mvI M σ (nx i) d).1, setI σ (nx i) (mvI M σ (nx i) d).2, push6 vs σ)) (-1000001, σ, vs)
theorem c10_slideItem (H : Plb h cs σ vs M) (i d : Int32) : sX10_slideItem E [aP (some 0), aI i, aI d] h (Cy cs (cSlideI M σ vs i d).2.1 (cSlideI M σ vs i d).2.2 M h (cSlideI M σ vs i d).1) := by
  refine eX10_slideItem ?_
  unfold PX10_slideItem_0
  have no : ¬ (Itm σ i ∧ Dirn d) → Cy cs (cSlideI M σ vs i d).2.1 (cSlideI M σ vs i d).2.2 M h (cSlideI M σ vs i d).1 (some (aI (-1000001))) h := fun q => by
    unfold cSlideI; rw [ifC_neg q]; exact Cy.mk rfl H Fr.refl
  refine cvI H.1 (s10_isItem H i) ⟨fun c => no fun q => ifC0 rfl c q.1, fun c => csI (s10_isDirection d) ⟨fun c2 => ?_, fun c2 => no fun q => ifC0 rfl c2 q.2⟩⟩
  have h1 : Itm σ i ∧ Dirn d := ⟨ifC1 rfl c, ifC1 rfl c2⟩
  have hn := h1.1.nat H.n8
  obtain ⟨_, g8⟩ := H.b267
  refine (rdP_iff H.1).mpr ⟨_, rfl, (rdP_iff H.1).mpr ⟨_, rfl, cvVq g8 H.keepB fun h8 q8 => ?_⟩⟩
  obtain ⟨B8, H8, f8⟩ := q8
  obtain ⟨_, g4⟩ := H8.p4
  have pi := Plb.prepI (E := E) H8 hn.2 i
  refine (rdP_iff H8.1).mpr ⟨_, rfl, (rdP_iff H8.1).mpr ⟨_, rfl, (rdP_iff H8.1).mpr ⟨_, rfl, cvP H8.st.obj.1 (u8_shape H8 h1.1) (cvVq g4 pi fun h15 q15 => ?_)⟩⟩⟩
  obtain ⟨P15, f15⟩ := q15
  have H15 := H8.places ⟨_, _, P15⟩ f15
  have B15 := B8.fr f15 (by omega)
  obtain ⟨fx, fy, X⟩ := P15
  have sp := s10_move (E := E) H15 X H8.obOne hn.2 h1.2
  rw [← hn.1] at sp
  refine cvIq H15.1 sp fun r h17 q17 => ?_
  obtain ⟨e17, H17, f17⟩ := q17
  have B17 := B15.fr f17 (by omega)
  have ok17 : OkS h17 M σ := (H15.ok).fr f17 (by omega) (by omega)
  have ff : Fr 0 313 h h17 := ((f8.weak (by omega) (by omega)).trans (f15.weak (by omega) (by omega))).trans (f17.weak (by omega) (by omega))
  have eI : mvN (obsP M σ.2.1 (itM M σ (nx i)) σ.2.2.2.2 i) (bxP (itM M σ (nx i)) σ.2.2.1 σ.2.2.2.1) d (iX σ (nx i)) (iY σ (nx i)) = mvI M σ (nx i) d := by
    unfold mvI mvO mvB; rw [← hn.1]
  rw [eI] at e17 H17
  refine ⟨fun c17 => (rdP_iff H17.1).mpr ⟨_, rfl, (rdP_iff H17.1).mpr ⟨_, rfl, cvVq H17.hi.ad.1 (H17.save2 B17 ok17) fun h22 q22 => ?_⟩⟩, fun c17 => ?_⟩
  · obtain ⟨H22, f22⟩ := q22
    unfold cSlideI; rw [ifC_pos h1, if_neg (by rw [← e17]; exact c17)]
    exact Cy.mk e17.symm H22 (ff.trans (f22.weak (by omega) (by omega)))
  · unfold cSlideI; rw [ifC_pos h1, if_pos (by rw [← e17]; exact c17)]
    exact Cy.mk rfl H17 ff
def cmItem (M : Nat → SH) (s : SV × Int32) (k : Nat) : SV × Int32 :=
  (setI (setI s.1 k (mvI M s.1 k 6).2) k (mvN (mvO M s.1 k) (mvB M s.1 k) 4 (iX (setI s.1 k (mvI M s.1 k 6).2) k) (iY (setI s.1 k (mvI M s.1 k 6).2) k)).2, s.2 + Int32.ofNat (mvI M s.1 k 6).1 + Int32.ofNat (mvN (mvO M s.1 k) (mvB M s.1 k) 4 (iX (setI s.1 k (mvI M s.1 k 6).2) k) (iY (setI s.1 k (mvI M s.1 k 6).2) k)).1)
def cmR (M : Nat → SH) (σ : SV) (j : Nat) : SV × Int32 := (List.range j).foldl (cmItem M) (σ, 0)
def cmGo (M : Nat → SH) : Nat → SV → Int32 → Int32 → SV × Int32
  | 0, σ, st, _ => (σ, st)
  | t + 1, σ, st, mv => if mv ≤ 0 then (σ, st) else cmGo M t (cmR M σ σ.2.1.length).1 (st + (cmR M σ σ.2.1.length).2) (cmR M σ σ.2.1.length).2
theorem cmGo_succ {t : Nat} {st mv : Int32} : cmGo M (t + 1) σ st mv = if mv ≤ 0 then (σ, st) else cmGo M t (cmR M σ σ.2.1.length).1 (st + (cmR M σ σ.2.1.length).2) (cmR M σ σ.2.1.length).2 := rfl
theorem cmItem_len {s : SV × Int32} {k : Nat} : (cmItem M s k).1.2.1.length = s.1.2.1.length := by
  unfold cmItem; rw [setI_len, setI_len]
theorem cmR_succ {j : Nat} : cmR M σ (j + 1) = cmItem M (cmR M σ j) j := by unfold cmR; rw [fold_succ]
theorem cmR_len {j : Nat} : (cmR M σ j).1.2.1.length = σ.2.1.length := by
  induction j with
  | zero => rfl
  | succ j ih => rw [cmR_succ, cmItem_len]; exact ih
def cmN (M : Nat → SH) (σ : SV) : SV × Int32 := cmGo M 1000000 σ 0 1
def cCompact (M : Nat → SH) (σ : SV) (vs : List SV) : Int32 × SV × List SV := if (cmN M σ).2 = 0 then (-1000009, (cmN M σ).1, vs) else ((cmN M σ).2, (cmN M σ).1, push6 vs σ)
theorem c10_compact (H : Plb h cs σ vs M) : sX10_compact E [aP (some 0)] h (Cy cs (cCompact M σ vs).2.1 (cCompact M σ vs).2.2 M h (cCompact M σ vs).1) := by
  have hd6 : Dirn 6 := ⟨by decide, by decide⟩
  have hd4 : Dirn 4 := ⟨by decide, by decide⟩
  have h8 := H.n8
  refine uX10_compact (fun m h' l0 l1 l2 l3 => ∃ t τ, m = t * 100 ∧ t ≤ 1000000 ∧ l0 = some 0 ∧ l3 = Int32.ofNat (1000000 - t) ∧ cmGo M t τ l1 l2 = cmN M σ ∧ τ.2.1.length = σ.2.1.length ∧ Plb h' cs τ vs M ∧ StI h' 267 1 σ ∧ OkS h' M σ ∧ Fr 0 313 h h')
    (fun m h' l0 l1 l2 l3 l4 => ∃ t τ k, m = (t + 1) * 100 - 1 - k ∧ t + 1 ≤ 1000000 ∧ k ≤ σ.2.1.length ∧ l0 = some 0 ∧ l3 = Int32.ofNat (1000000 - (t + 1)) ∧ l4 = Int32.ofNat k ∧ l2 = (cmR M τ k).2 ∧ cmGo M t (cmR M τ τ.2.1.length).1 (l1 + (cmR M τ τ.2.1.length).2) (cmR M τ τ.2.1.length).2 = cmN M σ ∧ τ.2.1.length = σ.2.1.length ∧ Plb h' cs (cmR M τ k).1 vs M ∧ StI h' 267 1 σ ∧ OkS h' M σ ∧ Fr 0 313 h h') ?_ ?_ ?_
  · unfold PX10_compact_0
    obtain ⟨_, g8⟩ := H.b267
    refine (rdP_iff H.1).mpr ⟨_, rfl, (rdP_iff H.1).mpr ⟨_, rfl, cvVq g8 H.keepB fun h4 q4 => ?_⟩⟩
    obtain ⟨B4, H4, f4⟩ := q4
    exact ⟨_, 1000000, σ, rfl, Nat.le_refl _, rfl, rfl, rfl, rfl, H4, B4, H4.ok, f4.weak (by omega) (by omega)⟩
  · rintro m h' l0 l1 l2 l3 ⟨t, τ, rfl, ht, rfl, rfl, hgo, hl, H', B', ok', f⟩
    have end_ : (τ, l1) = cmN M σ → PX10_compact_104 E (Cy cs (cCompact M σ vs).2.1 (cCompact M σ vs).2.2 M h (cCompact M σ vs).1) h' (some 0) l1 := fun z => by
      unfold PX10_compact_104 cCompact
      rw [← z]
      dsimp only
      refine ⟨fun c => (rdP_iff H'.1).mpr ⟨_, rfl, (rdP_iff H'.1).mpr ⟨_, rfl, cvVq H'.hi.ad.1 (H'.save2 B' ok') fun h22 q22 => ?_⟩⟩, fun c => ?_⟩
      · obtain ⟨H22, f22⟩ := q22
        rw [if_neg c]
        exact Cy.mk rfl H22 (f.trans (f22.weak (by omega) (by omega)))
      · rw [if_pos c]
        exact Cy.mk rfl H' f
    unfold PX10_compact_17
    refine ⟨fun c => ?_, fun c => ⟨fun c2 => ?_, fun c2 => ?_⟩⟩
    · have : 1000000 ≤ 1000000 - t := (i32_le (i := 1000000) (by omega) (by omega)).mp c
      have : t = 0 := by omega
      subst this
      exact end_ hgo
    · refine end_ ?_
      cases t with
      | zero => exact hgo
      | succ t => rw [cmGo_succ, if_pos c2] at hgo; exact hgo
    · have : ¬ 1000000 ≤ 1000000 - t := fun q => c ((i32_le (i := 1000000) (j := 1000000 - t) (by omega) (by omega)).mpr q)
      obtain ⟨t, rfl⟩ : ∃ s, t = s + 1 := ⟨t - 1, by omega⟩
      rw [cmGo_succ, if_neg c2] at hgo
      exact ⟨_, by omega, t, τ, 0, rfl, ht, Nat.zero_le _, rfl, rfl, rfl, rfl, hgo, hl, H', B', ok', f⟩
  · rintro m h' l0 l1 l2 l3 l4 ⟨t, τ, k, rfl, ht, hk, rfl, rfl, rfl, rfl, hgo, hl, H', B', ok', f⟩
    have hlen : (cmR M τ k).1.2.1.length = σ.2.1.length := by rw [cmR_len, hl]
    unfold PX10_compact_33
    have O := H'.st.obj.1
    rw [hlen] at O
    refine (rdP_iff H'.1).mpr ⟨_, rfl, (rdI_iff O).mpr ⟨_, rfl, fun c v3 e3 => ?_, fun c => ?_⟩⟩
    · have hkk : k = σ.2.1.length := by have := (i32_le (by omega) (by omega)).mp c; omega
      subst hkk
      rw [hl] at hgo
      exact ⟨t * 100, by omega, t, _, rfl, by omega, rfl, by rw [i32_s]; congr 1; omega, by rw [e3]; exact hgo, hlen, H', B', ok', f⟩
    · have hkk : k < σ.2.1.length := by have := mt (i32_le (i := σ.2.1.length) (j := k) (by omega) (by omega)).mpr c; omega
      have hk' : k < (cmR M τ k).1.2.1.length := by omega
      obtain ⟨_, g4⟩ := H'.p4
      generalize hs : cmR M τ k = s at *
      refine (rdP_iff H'.1).mpr ⟨_, rfl, (rdP_iff H'.1).mpr ⟨_, rfl, (rdP_iff H'.1).mpr ⟨_, rfl, cvP H'.st.obj.1 (t8_shape H'.st hk') (cvVq g4 (H'.prepI hk' _) fun h9 q9 => ?_)⟩⟩⟩
      obtain ⟨P9, f9⟩ := q9
      have H9 := H'.places ⟨_, _, P9⟩ f9
      have B9 := B'.fr f9 (by omega)
      have ok9 := ok'.fr f9 (by omega) (by omega)
      obtain ⟨fx, fy, X⟩ := P9
      refine cvIq H9.1 (s10_move H9 X H'.obOne hk' hd6) fun r10 h11 q11 v12 e12 => ?_
      obtain ⟨e11, H11, f11⟩ := q11
      have X11 := X.fr f11 (by omega)
      refine cvIq H11.1 (s10_move H11 X11 H'.obOne (by rw [setI_len]; exact hk') hd4) fun r13 h14 q14 v15 e15 => ?_
      obtain ⟨e14, H14, f14⟩ := q14
      refine ⟨(t + 1) * 100 - 1 - (k + 1), by omega, t, τ, k + 1, rfl, ht, hkk, rfl, rfl, i32_s k, ?_, hgo, hl, ?_, (B9.fr f11 (by omega)).fr f14 (by omega), (ok9.fr f11 (by omega) (by omega)).fr f14 (by omega) (by omega), ((f.trans (f9.weak (by omega) (by omega))).trans (f11.weak (by omega) (by omega))).trans (f14.weak (by omega) (by omega))⟩
      · rw [cmR_succ, hs, e15, e12, e11, e14]; rfl
      · rw [cmR_succ, hs]; exact H14
/-! layouts -/
def llGo (M : Nat → SH) (σ : SV) : List LI → List IT → Option (List IT)
  | [], acc => some acc
  | v :: L, acc => if (slM M σ (nx v.1)).isEmpty = false ∧ fitS M (σ.1, acc, σ.2.2) (slM M σ (nx v.1)) v.2.1 v.2.2 = true then llGo M σ L (acc ++ [(σ.1.getD (nx v.1) 0, v.2)]) else none
theorem ly_slt {cs : List Int32} : ∀ {t p : Nat} {L : List LI}, (∀ v, v ∈ L → Slt v.1) → ∀ v, v ∈ (lyGo cs t p L).2.2 → Slt v.1 := fun {t} => by
  induction t with
  | zero => intro p L h; exact h
  | succ t ih =>
    intro p L h
    rw [lyGo_succ]
    split
    · exact h
    · split
      · rename_i z
        refine ih fun v hv => ?_
        rcases List.mem_append.mp hv with q | q
        · exact h v q
        · rw [List.mem_singleton] at q
          subst q
          unfold liB at z
          simp only [Bool.and_eq_true] at z
          have := of_decide_eq_true z.1.1.1.1.1
          exact ⟨this.1, i32_not_le.mpr this.2⟩
      · exact h
theorem Plb.lay (H : Plb h cs σ vs M) {h' : AH} {p : Nat} {n : Int32} {L : List LI} (T : TxO h' 5 cs p n) (Y : LyO h' 15 L) (s : Sp 5 15 h h') : Plb h' cs σ vs M := by
  have f : Fr 5 19 h h' := ⟨s.1, fun q hq => s.2 q (by omega) (by omega)⟩
  obtain ⟨h0, ⟨p1, num, S, W, V, h1⟩, h2, h3, h4, h5, ⟨σb, h6⟩, h7, ⟨V2, h8⟩, ⟨S2, W2, h9⟩, ⟨g, h10⟩, ⟨bl, h11, h12⟩, h13⟩ := H
  exact ⟨(f.2 _ (by omega)).trans h0, ⟨p, n, S, W, V, T, (s.2 _ (by omega) (by omega)).trans h1.2.1, h1.2.2.1.same fun q a b => s.2 q (by omega) (by omega), h1.2.2.2.same fun q a b => s.2 q (by omega) (by omega)⟩, ⟨L, Y⟩, h3.fr f (by omega), h4.fr f (by omega), h5.fr f (by omega), ⟨σb, h6.fr f (by omega)⟩, h7.fr f (by omega), ⟨V2, h8.fr f (by omega)⟩, ⟨S2, W2, h9.fr f (by omega)⟩, ⟨g, h10.fr f (by omega)⟩, ⟨bl, (f.2 _ (by omega)).trans h11, h12⟩, h13.fr f (by omega) (by omega)⟩
noncomputable def cLay (M : Nat → SH) (cs : List Int32) (σ : SV) (vs : List SV) : Int32 × List Int32 × SV × List SV :=
  if (lyR cs).1 = true then (if (lyR cs).2.2.length ≤ 8 then (match llGo M σ (lyR cs).2.2 [] with
      | none => (-1000002, cs, σ, vs)
      | some its => (Int32.ofNat its.length, [], (σ.1, its, σ.2.2), push6 vs σ))
    else (-1000002, cs, σ, vs)) else (-10 - Int32.ofNat (lyR cs).2.1, cs, σ, vs)
theorem c10_loadLayout (H : Plb h cs σ vs M) : sX10_loadLayout E [aP (some 0)] h (Cy (cLay M cs σ vs).2.1 (cLay M cs σ vs).2.2.1 (cLay M cs σ vs).2.2.2 M h (cLay M cs σ vs).1) := by
  have hslt : ∀ v, v ∈ (lyR cs).2.2 → Slt v.1 := by unfold lyR; exact ly_slt fun v hv => absurd hv List.not_mem_nil
  refine uX10_loadLayout (fun m h' l0 l1 => ∃ k acc, m = (lyR cs).2.2.length - k ∧ k ≤ (lyR cs).2.2.length ∧ (lyR cs).2.2.length ≤ 8 ∧ l0 = some 0 ∧ l1 = Int32.ofNat k ∧ acc.length = k ∧ (lyR cs).1 = true ∧ llGo M σ ((lyR cs).2.2.drop k) acc = llGo M σ (lyR cs).2.2 [] ∧ LyO h' 15 (lyR cs).2.2 ∧ Plb h' cs (σ.1, acc, σ.2.2) vs M ∧ StI h' 267 1 σ ∧ OkS h' M σ ∧ Fr 0 313 h h') ?_ ?_
  · unfold PX10_loadLayout_0
    obtain ⟨p, num, S, W, V, K⟩ := H.tx
    obtain ⟨L, Y⟩ := H.2.2.1
    refine (rdP_iff H.1).mpr ⟨_, rfl, (rdP_iff H.1).mpr ⟨_, rfl, cvIq Y.ad (s2_read K.1 Y (by omega)) fun r h4 q4 => ?_⟩⟩
    obtain ⟨e4, ⟨n4, T4⟩, Y4, s4⟩ := q4
    have H4 := H.lay T4 Y4 s4
    have f4 : Fr 0 313 h h4 := ⟨s4.1, fun q hq => s4.2 q (by omega) (by omega)⟩
    have hlen := Y4.len
    refine ⟨fun c => (rdP_iff H4.1).mpr ⟨_, rfl, (rdI_iff Y4.ad).mpr ⟨_, rfl, fun c2 => ?_, fun c2 => ?_⟩⟩, fun c => (rdP_iff H4.1).mpr ⟨_, rfl, (rdI_iff T4.ad).mpr ⟨_, rfl, ?_⟩⟩⟩
    · have hl8 : (lyR cs).2.2.length ≤ 8 := (i32_le (j := 8) (by omega) (by omega)).mp c2
      obtain ⟨_, g8⟩ := H4.b267
      refine (rdP_iff H4.1).mpr ⟨_, rfl, (rdP_iff H4.1).mpr ⟨_, rfl, cvVq g8 H4.keepB fun h10 q10 => ?_⟩⟩
      obtain ⟨B10, H10, f10⟩ := q10
      have O := H10.st.obj.1
      refine (rdP_iff H10.1).mpr ⟨_, rfl, (wr_iff O).mpr ⟨Nat.le_of_ble_eq_true rfl, ?_⟩⟩
      have f12 : Fr 262 267 h10 (h10.set 262 (.inr (8, [aP (some 1), aP (some 263), aP (some 264), aP (some 265), aP (some 266), aI 0, aI σ.2.2.1, aI σ.2.2.2.1, aI σ.2.2.2.2]))) := Fr.set (by omega) (by omega)
      have Q := H10.shm.fr f12 (by omega) (by omega)
      have H12 := H10.state (H10.st.cnt0 σ.2.2.1 σ.2.2.2.1) (Q.mk (Q.ok.noItems _) fun s hs => Q.okv hs) f12
      exact ⟨_, 0, [], rfl, Nat.zero_le _, hl8, rfl, rfl, rfl, r01 e4 c, rfl, (Y4.fr f10 (by omega)).fr f12 (by omega), H12, B10.fr f12 (by omega), Q.ok, (f4.trans (f10.weak (by omega) (by omega))).trans (f12.weak (by omega) (by omega))⟩
    · have hl8 : ¬ (lyR cs).2.2.length ≤ 8 := mt (i32_le (j := 8) (by omega) (by omega)).mpr c2
      unfold cLay; rw [if_pos (r01 e4 c), if_neg hl8]
      exact Cy.mk rfl H4 f4
    · unfold cLay; rw [if_neg (r00 e4 c)]
      exact Cy.mk rfl H4 f4
  · rintro m h' l0 l1 ⟨k, acc, rfl, hk, hl8, rfl, rfl, hacc, hok, hgo, Y, H', B', ok', f⟩
    generalize hL : (lyR cs).2.2 = L at *
    unfold PX10_loadLayout_61
    refine (rdP_iff H'.1).mpr ⟨_, rfl, (rdI_iff Y.ad).mpr ⟨_, rfl, fun c => ?_, fun c => ?_⟩⟩
    · have hkk : k = L.length := by have := (i32_le (by omega) (by omega)).mp c; omega
      rw [hkk, List.drop_length] at hgo
      have hgo : llGo M σ L [] = some acc := hgo.symm
      refine (rdP_iff H'.1).mpr ⟨_, rfl, (rdP_iff H'.1).mpr ⟨_, rfl, cvVq H'.hi.ad.1 (H'.save2 B' ok') fun h6 q6 => ?_⟩⟩
      obtain ⟨H6, f6⟩ := q6
      obtain ⟨p, num, S, W, V, K⟩ := H6.tx
      have K8 := K.wipe
      have H8 := H6.rdk (cs' := []) ⟨_, _, _, _, _, K8.1⟩ K8.2
      refine (rdP_iff H6.1).mpr ⟨_, rfl, (wr_iff K.1.ad).mpr ⟨Nat.le_of_ble_eq_true rfl, (rdP_iff H8.1).mpr ⟨_, rfl, (rdI_iff H8.st.obj.1).mpr ⟨_, rfl, ?_⟩⟩⟩⟩
      unfold cLay; rw [if_pos hok, hL, if_pos hl8, hgo]
      exact Cy.mk rfl H8 ((f.trans (f6.weak (by omega) (by omega))).trans (K8.2.weak (by omega) (by omega)))
    · have hkk : k < L.length := by have := mt (i32_le (i := L.length) (j := k) (by omega) (by omega)).mpr c; omega
      have hd : L.drop k = L.getD k (0, 0, 0) :: L.drop (k + 1) := by
        rw [List.drop_eq_getElem_cons hkk, List.getD_eq_getElem?_getD, List.getElem?_eq_getElem hkk]; rfl
      have hs : Slt (L.getD k (0, 0, 0)).1 := hslt _ (getD_mem (0, 0, 0) hkk)
      generalize hv : L.getD k (0, 0, 0) = v at *
      rw [hd] at hgo
      have hsl : slM M (σ.1, acc, σ.2.2) (nx v.1) = slM M σ (nx v.1) := rfl
      have SL := H'.sl hs
      rw [hsl] at SL
      have yx : ∀ {g : AH}, LyO g 15 L → sX2_x E [aP (some 15), aI (Int32.ofNat k)] g (kI fun r h' => r = v.2.1 ∧ h' = g) := fun G => by
        have := s2_x (E := E) G hkk (by omega)
        rw [hv] at this; exact this
      have yy : ∀ {g : AH}, LyO g 15 L → sX2_y E [aP (some 15), aI (Int32.ofNat k)] g (kI fun r h' => r = v.2.2 ∧ h' = g) := fun G => by
        have := s2_y (E := E) G hkk (by omega)
        rw [hv] at this; exact this
      have ys := s2_slot (E := E) Y hkk (by omega)
      rw [hv] at ys
      have dq := SL.2.2
      refine (rdP_iff H'.1).mpr ⟨_, rfl, (rdP_iff H'.1).mpr ⟨_, rfl, cvI Y.ad ys (cvP H'.st.obj.1 (u8_slot H' hs) ((rdP_iff H'.1).mpr ⟨_, rfl, cvI Y.ad (yx Y) ((rdP_iff H'.1).mpr ⟨_, rfl, cvI Y.ad (yy Y) (cvIq H'.1 (s10_fits H' SL.1 SL.2.1 (by omega) _ _) fun r17 h17 q17 => ?_)⟩)⟩))⟩⟩
      obtain ⟨e17, H17, f17⟩ := q17
      have Y17 := Y.fr f17 (by omega)
      have B17 := B'.fr f17 (by omega)
      have ok17 := ok'.fr f17 (by omega) (by omega)
      have ff : Fr 0 313 h h17 := f.trans (f17.weak (by omega) (by omega))
      have emp : slM M σ (nx v.1) ≠ [] ↔ (slM M σ (nx v.1)).isEmpty = false := by
        cases slM M σ (nx v.1) <;> simp
      refine ⟨fun c17 => ?_, fun c17 => ?_⟩
      · have hf := ifC1 e17 c17
        have SL17 := H17.sl hs
        have hn8 : (σ.1, acc, σ.2.2).2.1.length < 8 := by show acc.length < 8; omega
        refine (rdP_iff H17.1).mpr ⟨_, rfl, (rdP_iff H17.1).mpr ⟨_, rfl, cvI Y17.ad (yx Y17) ((rdP_iff H17.1).mpr ⟨_, rfl, cvI Y17.ad (yy Y17) (cvVq H17.st.obj.1 (t8_add H17.st hn8 SL17.1.ad _ _) fun h26 q26 => ?_)⟩)⟩⟩
        obtain ⟨S26, f26⟩ := q26
        have Q := H17.shm.fr f26 (by omega) (by omega)
        have H26 := H17.state (σ' := addI (σ.1, acc, σ.2.2) (σ.1.getD (nx v.1) 0) v.2) S26 (Q.mk (Q.ok.add hn8 (Q.ok.1 _ (Or.inl (getD_mem 0 (by rw [Q.ok.2.1]; exact hs.nat.2)))) hf.1) fun s hs => Q.okv hs) f26
        refine ⟨L.length - (k + 1), by omega, k + 1, acc ++ [(σ.1.getD (nx v.1) 0, v.2)], rfl, hkk, hl8, rfl, i32_s k, by rw [List.length_append, hacc]; rfl, hok, ?_, Y17.fr f26 (by omega), H26, B17.fr f26 (by omega), ok17.fr f26 (by omega) (by omega), ff.trans (f26.weak (by omega) (by omega))⟩
        rw [← hgo]
        show _ = (if _ then _ else _)
        rw [if_pos ⟨emp.mp hf.1, hf.2⟩]
      · have hf := ifC0 e17 c17
        refine (rdP_iff H17.1).mpr ⟨_, rfl, (rdP_iff H17.1).mpr ⟨_, rfl, cvVq H17.st.obj.1 (H17.backB B17 ok17) fun h21 q21 => ?_⟩⟩
        obtain ⟨H21, f21⟩ := q21
        have hno : llGo M σ L [] = none := by
          rw [← hgo]
          show (if _ then _ else _) = _
          rw [if_neg fun z => hf ⟨emp.mpr z.1, z.2⟩]
        unfold cLay; rw [if_pos hok, hL, if_pos hl8, hno]
        exact Cy.mk rfl H21 (ff.trans (f21.weak (by omega) (by omega)))
end MV
