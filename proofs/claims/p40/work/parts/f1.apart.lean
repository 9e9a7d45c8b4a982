/-! no two items overlap -/
theorem corner (c : Z2) {r : Int} (hr : 0 ≤ r) : ∃ w : Z2, ((w.1 = r ∨ w.1 = -r) ∧ (w.2 = r ∨ w.2 = -r)) ∧ cr c w ≤ 0 := by
  obtain ⟨a, b⟩ := c
  unfold cr
  by_cases h1 : 0 ≤ a <;> by_cases h2 : 0 ≤ b
  · refine ⟨(r, -r), ⟨Or.inl rfl, Or.inr rfl⟩, ?_⟩
    have m1 := Int.mul_nonneg h1 hr
    have m2 := Int.mul_nonneg h2 hr
    show a * -r - b * r ≤ 0
    rw [Int.mul_neg]; omega
  · refine ⟨(-r, -r), ⟨Or.inr rfl, Or.inr rfl⟩, ?_⟩
    have m1 := Int.mul_nonneg h1 hr
    have m2 := Int.mul_nonneg (show 0 ≤ -b by omega) hr
    show a * -r - b * -r ≤ 0
    rw [Int.neg_mul] at m2
    rw [Int.mul_neg, Int.mul_neg]; omega
  · refine ⟨(r, r), ⟨Or.inl rfl, Or.inl rfl⟩, ?_⟩
    have m1 := Int.mul_nonneg (show 0 ≤ -a by omega) hr
    have m2 := Int.mul_nonneg h2 hr
    show a * r - b * r ≤ 0
    rw [Int.neg_mul] at m1
    omega
  · refine ⟨(-r, r), ⟨Or.inr rfl, Or.inl rfl⟩, ?_⟩
    have m1 := Int.mul_nonneg (show 0 ≤ -a by omega) hr
    have m2 := Int.mul_nonneg (show 0 ≤ -b by omega) hr
    show a * r - b * -r ≤ 0
    rw [Int.neg_mul] at m1 m2
    rw [Int.mul_neg]; omega
section AP
variable {A B : List PT} {S S' S2 : SH} {x y r : Int32}
theorem ins_mono (hA : RP A) (hB : RP B) (r0 : 0 ≤ r.toInt) (r5 : r.toInt ≤ 5) (hp : Bd (x, y)) (h : insP A B x y 0 0 = true) : insP A B x y r 0 = true := by
  have a0 : 0 < A.length := by have := hA.2.1.1; omega
  have b0 : 0 < B.length := by have := hB.2.1.1; omega
  have h := (ins_spec (r := 0) hA.1 hB.1 a0 b0 (by decide) (by decide) hp).1.mp h
  refine (ins_spec hA.1 hB.1 a0 b0 r0 r5 hp).1.mpr fun c hc => ?_
  obtain ⟨t, ⟨v, u, s, ⟨s1, s2⟩, rfl⟩, lt⟩ := h c hc
  have z : (0 : Int32).toInt = 0 := by decide
  rw [z] at s1 s2
  obtain ⟨w, w1, w2⟩ := corner c r0
  refine ⟨za (zs (zR A v) (zR B u)) w, ⟨v, u, w, w1, rfl⟩, ?_⟩
  rw [cr_za] at lt ⊢
  have s0 : cr c s = 0 := by
    have e1 : s.1 = 0 := by omega
    have e2 : s.2 = 0 := by omega
    unfold cr
    rw [e1, e2]; simp
  omega
theorem any_mono (hA : ∀ i, i < S.length → RP (S.getD i [])) (hB : ∀ i, i < S2.length → RP (S2.getD i [])) (r0 : 0 ≤ r.toInt) (r5 : r.toInt ≤ 5) (hp : Bd (x, y)) (h : anyP S S2 x y 0 0 = true) : anyP S S2 x y r 0 = true := by
  unfold anyP at *
  rw [List.any_eq_true] at *
  obtain ⟨ij, hij, q⟩ := h
  have m := pre_mem hij
  exact ⟨ij, hij, ins_mono (hA _ m.1) (hB _ m.2) r0 r5 hp q⟩
def NH (ρ : RV) : Prop := ∀ a b, a < b → b < ρ.2.1.length → rHit ρ 0 a b = false
variable {M : Nat → SH} {σ σ' : SV} {ρ : RV} {k : Nat} {d : Int32}
theorem NH.items {ρ' : RV} (N : NH ρ) (e : ρ'.2.1 = ρ.2.1) : NH ρ' := fun a b hab hb => by
  have := N a b hab (by rw [← e]; exact hb)
  unfold rHit rit at *
  rw [e]; exact this
theorem NH.none {ρ' : RV} (e : ρ'.2.1 = []) : NH ρ' := fun a b hab hb => by rw [e] at hb; exact absurd hb (Nat.not_lt_zero _)
theorem nat_ne {i : Nat} (hi : i < 100) : Int32.ofNat i ≠ -1000009 := fun q => by
  have := congrArg Int32.toInt q
  rw [i32_lt (by omega)] at this
  have z : (-1000009 : Int32).toInt = -1000009 := by decide
  rw [z] at this; omega
theorem fit_off {sk : Int32} (f : rFit ρ S' x y sk = true) {i : Nat} (hi : i < ρ.2.1.length) (hs : Int32.ofNat i ≠ sk) : anyP (rit ρ i).1 S' (x - (rit ρ i).2.1) (y - (rit ρ i).2.2) ρ.2.2.2.2 0 = false := by
  unfold rFit at f
  have f := (Bool.and_eq_true_iff.mp f).2
  rw [List.all_eq_true] at f
  have q := f i (List.mem_range.mpr hi)
  unfold rOff at q
  rw [Bool.or_eq_true] at q
  rcases q with q | q
  · exact absurd (of_decide_eq_true q) hs
  · exact (Bool.not_eq_true' _).mp q
theorem fit_hit (H : StR M σ ρ) (hB : ∀ i, i < S'.length → RP (S'.getD i [])) (hv : Np (x, y)) {sk : Int32} (f : rFit ρ S' x y sk = true) {i : Nat} (hi : i < ρ.2.1.length) (hs : Int32.ofNat i ≠ sk) : anyP (rit ρ i).1 S' (x - (rit ρ i).2.1) (y - (rit ρ i).2.2) 0 0 = false := by
  obtain ⟨a1, -, -, a4⟩ := H.it (i := i) (by rw [H.n.1]; exact hi)
  have q := fit_off f hi hs
  obtain ⟨-, w⟩ := H.2.2.1
  cases c : anyP (rit ρ i).1 S' (x - (rit ρ i).2.1) (y - (rit ρ i).2.2) 0 0 with
  | false => rfl
  | true =>
    have := any_mono a1.rp hB w.2.1 w.2.2 (np_sub hv a4).1 c
    rw [q] at this; exact this.symm
theorem rit_add (v : PT) {i : Nat} (hi : i < ρ.2.1.length) : rit (rAdd ρ S' v) i = rit ρ i := by
  show (ρ.2.1 ++ [_]).getD i dI = ρ.2.1.getD i dI
  rw [List.getD_eq_getElem?_getD, List.getElem?_append_left hi, ← List.getD_eq_getElem?_getD]
theorem rit_new (v : PT) : rit (rAdd ρ S' v) ρ.2.1.length = (S', v.1, v.2) := by
  show (ρ.2.1 ++ [_]).getD ρ.2.1.length dI = _
  rw [List.getD_eq_getElem?_getD, List.getElem?_append_right (Nat.le_refl _), Nat.sub_self]; rfl
theorem nh_add (H : StR M σ ρ) (N : NH ρ) (hB : ∀ i, i < S'.length → RP (S'.getD i [])) {v : PT} (hv : Np v) (f : rFit ρ S' v.1 v.2 (-1000009) = true) : NH (rAdd ρ S' v) := by
  intro a b hab hb
  have n8 := H.n
  have l : (rAdd ρ S' v).2.1.length = ρ.2.1.length + 1 := List.length_append
  rw [l] at hb
  by_cases c : b < ρ.2.1.length
  · have := N a b hab c
    unfold rHit at *
    rw [rit_add v c, rit_add v (by omega)]; exact this
  · have e : b = ρ.2.1.length := by omega
    subst e
    unfold rHit
    rw [rit_new v, rit_add v hab]
    exact fit_hit H hB hv f hab (nat_ne (by omega))
theorem rit_set (v : PT) (hk : k < ρ.2.1.length) (i : Nat) : rit (rSet ρ k v) i = if k = i then ((rit ρ k).1, v.1, v.2) else rit ρ i := by
  show (ρ.2.1.set k _).getD i dI = _
  rw [getD_set]
  by_cases c : k = i
  · rw [if_pos ⟨c, hk⟩, if_pos c]
  · rw [if_neg fun q => c q.1, if_neg c]
theorem nh_set (H : StR M σ ρ) (N : NH ρ) (hk : k < ρ.2.1.length) {v : PT} (H' : StR M σ' (rSet ρ k v)) (f : rFit ρ (rit ρ k).1 v.1 v.2 (Int32.ofNat k) = true) : NH (rSet ρ k v) := by
  intro a b hab hb
  have n8 := H.n
  have l : (rSet ρ k v).2.1.length = ρ.2.1.length := List.length_set ..
  rw [l] at hb
  have hv : Np v := by
    have := (H'.it (i := k) (by rw [H'.n.1, l]; exact hk)).2.2.2
    rw [rit_set v hk, if_pos rfl] at this; exact this
  have hB := (H.it (i := k) (by rw [n8.1]; exact hk)).1.rp
  have ne : ∀ i, i < ρ.2.1.length → i ≠ k → Int32.ofNat i ≠ Int32.ofNat k := fun i hi q z => q (i32_inj (by omega) (by omega) z)
  unfold rHit
  rw [rit_set v hk, rit_set v hk]
  by_cases ca : k = a
  · subst ca
    rw [if_pos rfl, if_neg (by omega)]
    obtain ⟨b1, -, -, b4⟩ := H.it (i := b) (by rw [n8.1]; exact hb)
    have s := (any_sym (r := 0) hB b1.rp (by decide) (by decide) (np_sub b4 hv).1).1
    rw [Int32.neg_sub, Int32.neg_sub] at s
    dsimp only
    rw [s]
    exact fit_hit H hB hv f hb (ne b hb (by omega))
  · rw [if_neg ca]
    by_cases cb : k = b
    · subst cb
      rw [if_pos rfl]
      exact fit_hit H hB hv f (by omega) (ne a (by omega) (by omega))
    · rw [if_neg cb]
      exact N a b hab hb
theorem nh_del (N : NH ρ) {i : Nat} (hi : i < ρ.2.1.length) : NH (ρ.1, ρ.2.1.eraseIdx i, ρ.2.2) := by
  intro a b hab hb
  have l : (ρ.2.1.eraseIdx i).length = ρ.2.1.length - 1 := List.length_eraseIdx_of_lt hi
  have hb : b < ρ.2.1.length - 1 := by rw [← l]; exact hb
  have q := N (if a < i then a else a + 1) (if b < i then b else b + 1) (by split <;> split <;> omega) (by split <;> omega)
  unfold rHit rit at *
  dsimp only
  rw [getD_eraseIdx, getD_eraseIdx]; exact q
theorem nh_slide (H : StR M σ ρ) (N : NH ρ) (hk : k < ρ.2.1.length) {n : Nat} (H' : StR M σ' (rSet ρ k (psn ρ k d n))) (hn : 0 < n) (f : rFitT ρ k d n = true) : NH (rSet ρ k (psn ρ k d n)) := nh_set H N hk H' f
theorem nh_one (H : StR M σ ρ) (N : NH ρ) (hk : k < ρ.2.1.length) (hd : d = 4 ∨ d = 6) : NH (rcOne ρ k d) := by
  obtain ⟨S, H', -, -, -⟩ := one_sl H (by rw [H.n.1]; exact hk) hd
  by_cases c : slN ρ k d = 0
  · unfold rcOne
    rw [c, psnZ, rSet_self hk]; exact N
  · obtain ⟨m, hm⟩ : ∃ m, slN ρ k d = m + 1 := ⟨slN ρ k d - 1, by omega⟩
    unfold rcOne at *
    exact nh_set H N hk H' (by rw [hm]; exact S.2.1 m (by omega))
theorem nh_item (H : StR M σ ρ) (N : NH ρ) (hk : k < ρ.2.1.length) (t : Nat) : NH (rcItem (ρ, t) k).1 := by
  have a2 := (one_sl H (k := k) (by rw [H.n.1]; exact hk) (d := 6) (Or.inr rfl)).2.1
  unfold rcItem
  exact nh_one a2 (nh_one H N hk (Or.inr rfl)) (by unfold rcOne; show k < (ρ.2.1.set k _).length; rw [List.length_set]; exact hk) (Or.inl rfl)
theorem nh_round (H : StR M σ ρ) (N : NH ρ) : ∀ j, j ≤ ρ.2.1.length → NH (rcR ρ j).1 := fun j => by
  induction j with
  | zero => intro _; exact N
  | succ j ih =>
    intro hj
    have n := H.n
    obtain ⟨r1, -, -⟩ := cm_round H j (by rw [n.1]; omega)
    rw [rcR_succ]
    have l : (rcR ρ j).1.2.1.length = ρ.2.1.length := by rw [← r1.n.1, cmR_len, n.1]
    exact nh_item r1 (ih (by omega)) (by rw [l]; omega) _
theorem nh_go : ∀ (f : Nat) (ρ : RV) (t : Nat) (σ : SV), StR M σ ρ → NH ρ → NH (rcGo f ρ t).1 := fun f => by
  induction f with
  | zero => intro ρ t σ _ N; exact N
  | succ f ih =>
    intro ρ t σ H N
    rw [rcGo_succ]
    have n := H.n
    have N2 := nh_round H N _ (Nat.le_refl _)
    split
    · exact N2
    · exact ih _ _ _ (cm_round H ρ.2.1.length (by rw [n.1]; exact Nat.le_refl _)).1 N2
end AP
