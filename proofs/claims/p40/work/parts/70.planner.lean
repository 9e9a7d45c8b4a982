/-! the planner: its parts, its state, the history, the shapes -/
abbrev obj10 : AE := .inr (10, [aP (some 5), aP (some 7), aP (some 15), aP (some 19), aP (some 30), aP (some 262), aP (some 267), aP (some 272), aP (some 304), aP (some 307), aP (some 311), aP (some 312)])
def LivS (s : SV) (a : Nat) : Prop := a ∈ s.1 ∨ ∃ it, it ∈ s.2.1 ∧ it.1 = a
def Liv (σ : SV) (vs : List SV) (a : Nat) : Prop := a = 1 ∨ LivS σ a ∨ ∃ s, s ∈ vs ∧ LivS s a
def Stw (M : Nat → SH) (s : SV) : Prop := s.1.length = 4 ∧ s.2.1.length ≤ 8 ∧ ∀ it, it ∈ s.2.1 → M it.1 ≠ []
def Shm (h : AH) (σ : SV) (vs : List SV) (M : Nat → SH) : Prop := (∀ a, Liv σ vs a → ShAt h a (M a) ∧ Pok (M a) ∧ (a = 1 ∨ 313 ≤ a)) ∧ M 1 = [] ∧ Stw M σ ∧ ∀ s, s ∈ vs → Stw M s
theorem Shm.fr {h h' : AH} {lo hi : Nat} {σ : SV} {vs : List SV} {M : Nat → SH} (H : Shm h σ vs M) (r : Fr lo hi h h') (d1 : 5 ≤ lo) (d2 : hi ≤ 313) : Shm h' σ vs M :=
  ⟨fun a ha => ⟨(H.1 a ha).1.fr r (by rcases (H.1 a ha).2.2 with q | q <;> omega), (H.1 a ha).2⟩, H.2⟩
def Plb (h : AH) (cs : List Int32) (σ : SV) (vs : List SV) (M : Nat → SH) : Prop :=
  h[0]? = some obj10 ∧ (∃ p num S W V, RdK h 5 cs p num S W V) ∧ (∃ L, LyO h 15 L) ∧ PairAt h 19 ∧ PlAt h 30 ∧ StI h 262 1 σ ∧ (∃ σb, StI h 267 1 σb) ∧ Hi h 272 1 vs ∧ (∃ V, PolyAt h 304 V) ∧ (∃ S W, ShO h 307 S W) ∧ (∃ f, FrAt h 311 f) ∧ (∃ bl, h[312]? = some (.inl (0, bl)) ∧ bl.length = 8) ∧ Shm h σ vs M
section PU
variable {h h' : AH} {cs cs' : List Int32} {σ σ' : SV} {vs vs' : List SV} {M : Nat → SH}
theorem Plb.rdk (H : Plb h cs σ vs M) (P : ∃ p num S W V, RdK h' 5 cs' p num S W V) (f : Fr 5 15 h h') : Plb h' cs' σ vs M := by
  obtain ⟨h0, ⟨p, num, S, W, V, h1⟩, ⟨L, h2⟩, h3, h4, h5, ⟨σb, h6⟩, h7, ⟨V2, h8⟩, ⟨S2, W2, h9⟩, ⟨g, h10⟩, ⟨bl, h11, h12⟩, h13⟩ := H
  exact ⟨(f.2 _ (by omega)).trans h0, P, ⟨L, h2.fr f (by omega)⟩, h3.fr f (by omega), h4.fr f (by omega), h5.fr f (by omega), ⟨σb, h6.fr f (by omega)⟩, h7.fr f (by omega), ⟨V2, h8.fr f (by omega)⟩, ⟨S2, W2, h9.fr f (by omega)⟩, ⟨g, h10.fr f (by omega)⟩, ⟨bl, (f.2 _ (by omega)).trans h11, h12⟩, h13.fr f (by omega) (by omega)⟩
theorem Plb.pair (H : Plb h cs σ vs M) (P : PairAt h' 19) (f : Fr 19 30 h h') : Plb h' cs σ vs M := by
  obtain ⟨h0, ⟨p, num, S, W, V, h1⟩, ⟨L, h2⟩, h3, h4, h5, ⟨σb, h6⟩, h7, ⟨V2, h8⟩, ⟨S2, W2, h9⟩, ⟨g, h10⟩, ⟨bl, h11, h12⟩, h13⟩ := H
  exact ⟨(f.2 _ (by omega)).trans h0, ⟨p, num, S, W, V, h1.fr f (by omega)⟩, ⟨L, h2.fr f (by omega)⟩, P, h4.fr f (by omega), h5.fr f (by omega), ⟨σb, h6.fr f (by omega)⟩, h7.fr f (by omega), ⟨V2, h8.fr f (by omega)⟩, ⟨S2, W2, h9.fr f (by omega)⟩, ⟨g, h10.fr f (by omega)⟩, ⟨bl, (f.2 _ (by omega)).trans h11, h12⟩, h13.fr f (by omega) (by omega)⟩
theorem Plb.places (H : Plb h cs σ vs M) (P : PlAt h' 30) (f : Fr 30 262 h h') : Plb h' cs σ vs M := by
  obtain ⟨h0, ⟨p, num, S, W, V, h1⟩, ⟨L, h2⟩, h3, h4, h5, ⟨σb, h6⟩, h7, ⟨V2, h8⟩, ⟨S2, W2, h9⟩, ⟨g, h10⟩, ⟨bl, h11, h12⟩, h13⟩ := H
  exact ⟨(f.2 _ (by omega)).trans h0, ⟨p, num, S, W, V, h1.fr f (by omega)⟩, ⟨L, h2.fr f (by omega)⟩, h3.fr f (by omega), P, h5.fr f (by omega), ⟨σb, h6.fr f (by omega)⟩, h7.fr f (by omega), ⟨V2, h8.fr f (by omega)⟩, ⟨S2, W2, h9.fr f (by omega)⟩, ⟨g, h10.fr f (by omega)⟩, ⟨bl, (f.2 _ (by omega)).trans h11, h12⟩, h13.fr f (by omega) (by omega)⟩
theorem Plb.before (H : Plb h cs σ vs M) (P : ∃ σb, StI h' 267 1 σb) (f : Fr 267 272 h h') : Plb h' cs σ vs M := by
  obtain ⟨h0, ⟨p, num, S, W, V, h1⟩, ⟨L, h2⟩, h3, h4, h5, ⟨σb, h6⟩, h7, ⟨V2, h8⟩, ⟨S2, W2, h9⟩, ⟨g, h10⟩, ⟨bl, h11, h12⟩, h13⟩ := H
  exact ⟨(f.2 _ (by omega)).trans h0, ⟨p, num, S, W, V, h1.fr f (by omega)⟩, ⟨L, h2.fr f (by omega)⟩, h3.fr f (by omega), h4.fr f (by omega), h5.fr f (by omega), P, h7.fr f (by omega), ⟨V2, h8.fr f (by omega)⟩, ⟨S2, W2, h9.fr f (by omega)⟩, ⟨g, h10.fr f (by omega)⟩, ⟨bl, (f.2 _ (by omega)).trans h11, h12⟩, h13.fr f (by omega) (by omega)⟩
theorem Plb.poly (H : Plb h cs σ vs M) (P : ∃ V, PolyAt h' 304 V) (f : Fr 304 307 h h') : Plb h' cs σ vs M := by
  obtain ⟨h0, ⟨p, num, S, W, V, h1⟩, ⟨L, h2⟩, h3, h4, h5, ⟨σb, h6⟩, h7, ⟨V2, h8⟩, ⟨S2, W2, h9⟩, ⟨g, h10⟩, ⟨bl, h11, h12⟩, h13⟩ := H
  exact ⟨(f.2 _ (by omega)).trans h0, ⟨p, num, S, W, V, h1.fr f (by omega)⟩, ⟨L, h2.fr f (by omega)⟩, h3.fr f (by omega), h4.fr f (by omega), h5.fr f (by omega), ⟨σb, h6.fr f (by omega)⟩, h7.fr f (by omega), P, ⟨S2, W2, h9.fr f (by omega)⟩, ⟨g, h10.fr f (by omega)⟩, ⟨bl, (f.2 _ (by omega)).trans h11, h12⟩, h13.fr f (by omega) (by omega)⟩
theorem Plb.turned (H : Plb h cs σ vs M) (P : ∃ S W, ShO h' 307 S W) (f : Fr 307 311 h h') : Plb h' cs σ vs M := by
  obtain ⟨h0, ⟨p, num, S, W, V, h1⟩, ⟨L, h2⟩, h3, h4, h5, ⟨σb, h6⟩, h7, ⟨V2, h8⟩, ⟨S2, W2, h9⟩, ⟨g, h10⟩, ⟨bl, h11, h12⟩, h13⟩ := H
  exact ⟨(f.2 _ (by omega)).trans h0, ⟨p, num, S, W, V, h1.fr f (by omega)⟩, ⟨L, h2.fr f (by omega)⟩, h3.fr f (by omega), h4.fr f (by omega), h5.fr f (by omega), ⟨σb, h6.fr f (by omega)⟩, h7.fr f (by omega), ⟨V2, h8.fr f (by omega)⟩, P, ⟨g, h10.fr f (by omega)⟩, ⟨bl, (f.2 _ (by omega)).trans h11, h12⟩, h13.fr f (by omega) (by omega)⟩
theorem Plb.small (H : Plb h cs σ vs M) (P : ∃ f, FrAt h' 311 f) (f : Fr 311 312 h h') : Plb h' cs σ vs M := by
  obtain ⟨h0, ⟨p, num, S, W, V, h1⟩, ⟨L, h2⟩, h3, h4, h5, ⟨σb, h6⟩, h7, ⟨V2, h8⟩, ⟨S2, W2, h9⟩, ⟨g, h10⟩, ⟨bl, h11, h12⟩, h13⟩ := H
  exact ⟨(f.2 _ (by omega)).trans h0, ⟨p, num, S, W, V, h1.fr f (by omega)⟩, ⟨L, h2.fr f (by omega)⟩, h3.fr f (by omega), h4.fr f (by omega), h5.fr f (by omega), ⟨σb, h6.fr f (by omega)⟩, h7.fr f (by omega), ⟨V2, h8.fr f (by omega)⟩, ⟨S2, W2, h9.fr f (by omega)⟩, P, ⟨bl, (f.2 _ (by omega)).trans h11, h12⟩, h13.fr f (by omega) (by omega)⟩
theorem Plb.state (H : Plb h cs σ vs M) (P : StI h' 262 1 σ') (Q : Shm h' σ' vs M) (f : Fr 262 267 h h') : Plb h' cs σ' vs M := by
  obtain ⟨h0, ⟨p, num, S, W, V, h1⟩, ⟨L, h2⟩, h3, h4, h5, ⟨σb, h6⟩, h7, ⟨V2, h8⟩, ⟨S2, W2, h9⟩, ⟨g, h10⟩, ⟨bl, h11, h12⟩, h13⟩ := H
  exact ⟨(f.2 _ (by omega)).trans h0, ⟨p, num, S, W, V, h1.fr f (by omega)⟩, ⟨L, h2.fr f (by omega)⟩, h3.fr f (by omega), h4.fr f (by omega), P, ⟨σb, h6.fr f (by omega)⟩, h7.fr f (by omega), ⟨V2, h8.fr f (by omega)⟩, ⟨S2, W2, h9.fr f (by omega)⟩, ⟨g, h10.fr f (by omega)⟩, ⟨bl, (f.2 _ (by omega)).trans h11, h12⟩, Q⟩
theorem Plb.hist (H : Plb h cs σ vs M) (P : Hi h' 272 1 vs') (Q : Shm h' σ vs' M) (f : Fr 272 304 h h') : Plb h' cs σ vs' M := by
  obtain ⟨h0, ⟨p, num, S, W, V, h1⟩, ⟨L, h2⟩, h3, h4, h5, ⟨σb, h6⟩, h7, ⟨V2, h8⟩, ⟨S2, W2, h9⟩, ⟨g, h10⟩, ⟨bl, h11, h12⟩, h13⟩ := H
  exact ⟨(f.2 _ (by omega)).trans h0, ⟨p, num, S, W, V, h1.fr f (by omega)⟩, ⟨L, h2.fr f (by omega)⟩, h3.fr f (by omega), h4.fr f (by omega), h5.fr f (by omega), ⟨σb, h6.fr f (by omega)⟩, P, ⟨V2, h8.fr f (by omega)⟩, ⟨S2, W2, h9.fr f (by omega)⟩, ⟨g, h10.fr f (by omega)⟩, ⟨bl, (f.2 _ (by omega)).trans h11, h12⟩, Q⟩
end PU
def slM (M : Nat → SH) (σ : SV) (j : Nat) : SH := M (σ.1.getD j 0)
def itM (M : Nat → SH) (σ : SV) (k : Nat) : SH := M (itA σ.2.1 k).1
def Slt (x : Int32) : Prop := ¬ x < 0 ∧ ¬ (4 : Int32) ≤ x
def Dirn (x : Int32) : Prop := ¬ x < 0 ∧ ¬ (8 : Int32) ≤ x
def Nea (x : Int32) : Prop := ¬ x < (-60 : Int32) ∧ ¬ (60 : Int32) < x
def Prt (x : Int32) : Prop := x = 0 ∨ x = 1
noncomputable def ifC {α : Type} (p : Prop) (a b : α) : α := @ite α p (Classical.propDecidable p) a b
theorem ifC_pos {α : Type} {p : Prop} {a b : α} (h : p) : ifC p a b = a := @if_pos p (Classical.propDecidable p) h α a b
theorem ifC_neg {α : Type} {p : Prop} {a b : α} (h : ¬ p) : ifC p a b = b := @if_neg p (Classical.propDecidable p) h α a b
theorem ifC1 {p : Prop} {r : Int32} (e : r = ifC p 1 0) (h : ¬ r = 0) : p := Classical.byContradiction fun q => h (by rw [e, ifC_neg q])
theorem ifC0 {p : Prop} {r : Int32} (e : r = ifC p 1 0) (h : r = 0) : ¬ p := fun q => by rw [e, ifC_pos q] at h; exact absurd h (by decide)
theorem nat_of {x : Int32} {n : Nat} (h1 : ¬ x < 0) (h2 : ¬ Int32.ofNat n ≤ x) (hn : n < 2147483648) : x = Int32.ofNat x.toNatClampNeg ∧ x.toNatClampNeg < n := by
  obtain ⟨j, e, h3, h4⟩ := i32_of (i32_not_lt.mp h1)
  refine ⟨by rw [h4]; exact e, ?_⟩
  rw [h4]
  have := mt (i32_le (i := n) (j := j) hn h3).mpr (by rw [← e]; exact h2)
  omega
theorem Slt.nat {x : Int32} (h : Slt x) : x = Int32.ofNat x.toNatClampNeg ∧ x.toNatClampNeg < 4 := nat_of (n := 4) h.1 h.2 (by omega)
theorem Dirn.nat {x : Int32} (h : Dirn x) : x = Int32.ofNat x.toNatClampNeg ∧ x.toNatClampNeg < 8 := nat_of (n := 8) h.1 h.2 (by omega)
section SM
variable {E : EV} {h : AH}
theorem s10_isSlot (x : Int32) : sX10_isSlot E [aI x] h (kI fun r h' => r = ifC (Slt x) 1 0 ∧ h' = h) := by
  refine eX10_isSlot ?_
  unfold PX10_isSlot_0
  exact ⟨fun c => ⟨_, rfl, (ifC_neg fun q => q.1 c).symm, rfl⟩, fun c => ⟨fun c2 => ⟨_, rfl, (ifC_neg fun q => q.2 c2).symm, rfl⟩, fun c2 => ⟨_, rfl, (ifC_pos ⟨c, c2⟩).symm, rfl⟩⟩⟩
theorem s10_isDirection (x : Int32) : sX10_isDirection E [aI x] h (kI fun r h' => r = ifC (Dirn x) 1 0 ∧ h' = h) := by
  refine eX10_isDirection ?_
  unfold PX10_isDirection_0
  exact ⟨fun c => ⟨_, rfl, (ifC_neg fun q => q.1 c).symm, rfl⟩, fun c => ⟨fun c2 => ⟨_, rfl, (ifC_neg fun q => q.2 c2).symm, rfl⟩, fun c2 => ⟨_, rfl, (ifC_pos ⟨c, c2⟩).symm, rfl⟩⟩⟩
theorem s10_isNear (x : Int32) : sX10_isNear E [aI x] h (kI fun r h' => r = ifC (Nea x) 1 0 ∧ h' = h) := by
  refine eX10_isNear ?_
  unfold PX10_isNear_0
  exact ⟨fun c => ⟨_, rfl, (ifC_neg fun q => q.1 c).symm, rfl⟩, fun c => ⟨fun c2 => ⟨_, rfl, (ifC_neg fun q => q.2 c2).symm, rfl⟩, fun c2 => ⟨_, rfl, (ifC_pos ⟨c, c2⟩).symm, rfl⟩⟩⟩
theorem s10_isPart (x : Int32) : sX10_isPart E [aI x] h (kI fun r h' => r = ifC (Prt x) 1 0 ∧ h' = h) := by
  refine eX10_isPart ?_
  unfold PX10_isPart_0
  exact ⟨fun c => ⟨_, rfl, (ifC_pos (Or.inl c)).symm, rfl⟩, fun c => ⟨fun c2 => ⟨_, rfl, (ifC_neg fun q => q.elim c c2).symm, rfl⟩, fun c2 => ⟨_, rfl, (ifC_pos (Or.inr c2)).symm, rfl⟩⟩⟩
theorem s10_dirX {x : Int32} (hx : Dirn x) : sX10_directionX E [aI x] h (kI fun r h' => r = dirxF x.toNatClampNeg ∧ h' = h) := by
  refine eX10_directionX ?_
  unfold PX10_directionX_0
  exact ⟨fun c => absurd c hx.1, fun c => ⟨fun c2 => absurd c2 hx.2, fun c2 => ⟨c, hx.nat.2, _, rfl, rfl, rfl⟩⟩⟩
theorem s10_dirY {x : Int32} (hx : Dirn x) : sX10_directionY E [aI x] h (kI fun r h' => r = diryF x.toNatClampNeg ∧ h' = h) := by
  refine eX10_directionY ?_
  unfold PX10_directionY_0
  exact ⟨fun c => absurd c hx.1, fun c => ⟨fun c2 => absurd c2 hx.2, fun c2 => ⟨c, hx.nat.2, _, rfl, rfl, rfl⟩⟩⟩
end SM
section PB
variable {E : EV} {h : AH} {cs : List Int32} {σ : SV} {vs : List SV} {M : Nat → SH}
theorem Plb.slot (H : Plb h cs σ vs M) {j : Nat} (hj : j < 4) : ShAt h (σ.1.getD j 0) (slM M σ j) ∧ Pok (slM M σ j) ∧ (σ.1.getD j 0 = 1 ∨ 313 ≤ σ.1.getD j 0) :=
  H.2.2.2.2.2.2.2.2.2.2.2.2.1 _ (Or.inr (Or.inl (Or.inl (getD_mem 0 (by rw [H.2.2.2.2.2.2.2.2.2.2.2.2.2.2.1.1]; exact hj)))))
theorem Plb.item (H : Plb h cs σ vs M) {k : Nat} (hk : k < σ.2.1.length) : ShAt h (itA σ.2.1 k).1 (itM M σ k) ∧ Pok (itM M σ k) ∧ ((itA σ.2.1 k).1 = 1 ∨ 313 ≤ (itA σ.2.1 k).1) :=
  H.2.2.2.2.2.2.2.2.2.2.2.2.1 _ (Or.inr (Or.inl (Or.inr ⟨_, getD_mem (0, 0, 0) hk, rfl⟩)))
theorem Plb.st (H : Plb h cs σ vs M) : StI h 262 1 σ := H.2.2.2.2.2.1
theorem Plb.stw (H : Plb h cs σ vs M) : Stw M σ := H.2.2.2.2.2.2.2.2.2.2.2.2.2.2.1
theorem Plb.shm (H : Plb h cs σ vs M) : Shm h σ vs M := H.2.2.2.2.2.2.2.2.2.2.2.2
theorem flat_ne {S : SH} (h : S ≠ []) (hP : Pok S) : S.flatten ≠ [] := by
  cases S with
  | nil => exact absurd rfl h
  | cons P S =>
    have := (hP 0 (by simp)).1
    simp only [List.getD_cons_zero] at this
    intro q
    rw [List.flatten_cons, List.append_eq_nil_iff] at q
    rw [q.1] at this; simp at this
theorem Plb.item_ne (H : Plb h cs σ vs M) {k : Nat} (hk : k < σ.2.1.length) : itM M σ k ≠ [] := H.stw.2.2 _ (getD_mem (0, 0, 0) hk)
theorem s10_isSlotEmpty (H : Plb h cs σ vs M) {j : Nat} (hj : j < 4) : sX10_isSlotEmpty E [aP (some 0), aI (Int32.ofNat j)] h (kI fun r h' => r = (if slM M σ j = [] then 1 else 0) ∧ h' = h) := by
  refine eX10_isSlotEmpty ?_
  unfold PX10_isSlotEmpty_0
  obtain ⟨_, g6⟩ := (H.slot hj).1.ad
  refine (rdP_iff H.1).mpr ⟨_, rfl, cvP H.st.obj.1 (t8_slot H.st hj) (cvI g6 (s6_isEmpty (H.slot hj).1) ⟨?_, _, rfl, rfl, rfl⟩)⟩
  split
  · exact Or.inr rfl
  · exact Or.inl rfl
def Pce (S : SH) (i : Int32) : Prop := ¬ i < 0 ∧ ¬ Int32.ofNat S.length ≤ i
def Has (M : Nat → SH) (σ : SV) (x i : Int32) : Prop := Slt x ∧ Pce (slM M σ x.toNatClampNeg) i
theorem Pce.nat {S : SH} {i : Int32} (h : Pce S i) (hS : S.length ≤ 3) : i = Int32.ofNat i.toNatClampNeg ∧ i.toNatClampNeg < S.length := nat_of h.1 h.2 (by omega)
theorem s10_hasPiece (H : Plb h cs σ vs M) (x i : Int32) : sX10_hasPiece E [aP (some 0), aI x, aI i] h (kI fun r h' => r = ifC (Has M σ x i) 1 0 ∧ h' = h) := by
  refine eX10_hasPiece ?_
  unfold PX10_hasPiece_0
  refine csIq (s10_isSlot x) fun r1 h1 q1 => ?_
  obtain ⟨e1, rfl⟩ := q1
  refine ⟨fun c => ⟨_, rfl, (ifC_neg fun q => ifC0 e1 c q.1).symm, rfl⟩, fun c => ⟨fun c2 => ⟨_, rfl, (ifC_neg fun q => q.2.1 c2).symm, rfl⟩, fun c2 => (rdP_iff H.1).mpr ⟨_, rfl, ?_⟩⟩⟩
  have hs := ifC1 e1 c
  obtain ⟨ex, hx⟩ := hs.nat
  generalize hj : x.toNatClampNeg = j at *
  subst ex
  obtain ⟨fs, g6, gf, g3⟩ := shl (H.slot hx).1
  refine cvP H.st.obj.1 (t8_slot H.st hx) ((rdI_iff g6).mpr ⟨_, gf, fun c3 => ⟨_, rfl, (ifC_neg fun q => ?_).symm, rfl⟩, fun c3 => ⟨_, rfl, (ifC_pos ⟨hs, ?_⟩).symm, rfl⟩⟩)
  · have := q.2.2
    rw [hj] at this; exact this c3
  · rw [hj]; exact ⟨c2, c3⟩
def Itm (σ : SV) (i : Int32) : Prop := ¬ i < 0 ∧ ¬ Int32.ofNat σ.2.1.length ≤ i
theorem Itm.nat {σ : SV} {i : Int32} (h : Itm σ i) (h8 : σ.2.1.length ≤ 8) : i = Int32.ofNat i.toNatClampNeg ∧ i.toNatClampNeg < σ.2.1.length := nat_of h.1 h.2 (by omega)
theorem s10_isItem (H : Plb h cs σ vs M) (i : Int32) : sX10_isItem E [aP (some 0), aI i] h (kI fun r h' => r = ifC (Itm σ i) 1 0 ∧ h' = h) := by
  refine eX10_isItem ?_
  unfold PX10_isItem_0
  exact ⟨fun c => ⟨_, rfl, (ifC_neg fun q => q.1 c).symm, rfl⟩, fun c => (rdP_iff H.1).mpr ⟨_, rfl, (rdI_iff H.st.obj.1).mpr ⟨_, rfl, fun c2 => ⟨_, rfl, (ifC_neg fun q => q.2 c2).symm, rfl⟩, fun c2 => ⟨_, rfl, (ifC_pos ⟨c, c2⟩).symm, rfl⟩⟩⟩⟩
end PB
