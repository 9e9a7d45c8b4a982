/-! compaction goes on alike -/
section CM
variable {M : Nat → SH} {σ : SV} {ρ : RV} {vs : List SV} {ps : List RV} {k : Nat}
def itp (r : RI) : Nat := (r.2.1.toInt + r.2.2.toInt + 100).toNat
def potL (ρ : RV) : Nat := (ρ.2.1.map itp).sum
theorem sum_set {f : RI → Nat} : ∀ (l : List RI) (i : Nat) (a : RI), i < l.length → ((l.set i a).map f).sum + f (l.getD i dI) = (l.map f).sum + f a := fun l => by
  induction l with
  | nil => intro i a h; simp at h
  | cons b l ih =>
    intro i a h
    cases i with
    | zero =>
      show (f a + (l.map f).sum) + f b = (f b + (l.map f).sum) + f a
      omega
    | succ i =>
      have := ih i a (by simpa using h)
      show (f b + ((l.set i a).map f).sum) + f (l.getD i dI) = (f b + (l.map f).sum) + f a
      omega
theorem d46 {d : Int32} (h : d = 4 ∨ d = 6) : Dirn d := by
  rcases h with rfl | rfl <;> exact ⟨by decide, by decide⟩
theorem dir46 {d : Int32} (h : d = 4 ∨ d = 6) : (dxR d).toInt + (dyR d).toInt = -1 := by
  rcases h with rfl | rfl <;> decide
/-- one slide of the rounds -/
theorem one_sl (H : StR M σ ρ) (hk : k < σ.2.1.length) {d : Int32} (hd : d = 4 ∨ d = 6) : SlE ρ k d (slN ρ k d) ∧ StR M (setI σ k (psn ρ k d (slN ρ k d))) (rcOne ρ k d) ∧ potL (rcOne ρ k d) + slN ρ k d = potL ρ ∧ slN ρ k d ≤ 100 ∧ mvI M σ k d = (slN ρ k d, psn ρ k d (slN ρ k d)) := by
  obtain ⟨n, h1, h2, h3, h4⟩ := mv_eq H hk (d46 hd)
  have e := slN_eq h2
  rw [e]
  refine ⟨h2, by unfold rcOne; rw [e]; exact h4, ?_, h1, h3⟩
  unfold rcOne
  rw [e]
  have hk' : k < ρ.2.1.length := by rw [← H.n.1]; exact hk
  have s := sum_set (f := itp) ρ.2.1 k ((rit ρ k).1, (psn ρ k d n).1, (psn ρ k d n).2) hk'
  have s : potL (rSet ρ k (psn ρ k d n)) + itp (rit ρ k) = potL ρ + itp ((rit ρ k).1, (psn ρ k d n).1, (psn ρ k d n).2) := s
  obtain ⟨-, -, -, a5⟩ := H.it hk
  obtain ⟨-, -, -, b5⟩ := h4.it (i := k) (by rw [setI_len]; exact hk)
  rw [rit_setS hk'] at b5
  obtain ⟨i1, i2⟩ := psn_int (t := n) (d46 hd) a5 (by omega)
  have dd := dir46 hd
  obtain ⟨p1, p2, p3, p4⟩ := a5
  obtain ⟨q1, q2, q3, q4⟩ := b5
  dsimp only at q1 q2 q3 q4
  unfold itp at s
  dsimp only at s
  have m : (n : Int) * (dxR d).toInt + n * (dyR d).toInt = -n := by
    rw [← Int.mul_add, dd]; omega
  omega
theorem gd_cmp : Cmp (fun ρ => ∃ M σ, StR M σ ρ) potL := by
  refine ⟨fun ρ i d ⟨M, σ, H⟩ hi hd => ?_, fun ρ i d ⟨M, σ, H⟩ hi hd => ?_, fun ρ i d ⟨M, σ, H⟩ hi hd => ?_, fun ρ ⟨M, σ, H⟩ => ?_⟩
  · exact ⟨_, (one_sl H (by rw [H.n.1]; exact hi) hd).1⟩
  · exact ⟨M, _, (one_sl H (by rw [H.n.1]; exact hi) hd).2.1⟩
  · exact Nat.le_of_eq (one_sl H (by rw [H.n.1]; exact hi) hd).2.2.1
  · have b : ∀ (l : List RI), (∀ r, r ∈ l → Np r.2) → (l.map itp).sum ≤ 200 * l.length := fun l => by
      induction l with
      | nil => intro _; exact Nat.le_refl _
      | cons a l ih =>
        intro h
        obtain ⟨p1, p2, p3, p4⟩ := h a (List.mem_cons_self ..)
        have := ih fun r hr => h r (List.mem_cons_of_mem _ hr)
        show itp a + (l.map itp).sum ≤ 200 * (l.length + 1)
        unfold itp at *
        omega
    have n := H.n
    have := b ρ.2.1 fun r hr => by
      obtain ⟨i, hi, e⟩ := List.getElem_of_mem hr
      have := (H.it (i := i) (by rw [n.1]; exact hi)).2.2.2
      have e2 : rit ρ i = r := by
        unfold rit
        rw [List.getD_eq_getElem?_getD, List.getElem?_eq_getElem hi, e]; rfl
      rw [e2] at this; exact this
    unfold potL
    omega
theorem cm_item (H : StR M σ ρ) (hk : k < σ.2.1.length) {s : Int32} {t : Nat} (e : s = Int32.ofNat t) : StR M (cmItem M (σ, s) k).1 (rcItem (ρ, t) k).1 ∧ (cmItem M (σ, s) k).2 = Int32.ofNat (rcItem (ρ, t) k).2 ∧ potL (rcItem (ρ, t) k).1 + (rcItem (ρ, t) k).2 = potL ρ + t ∧ (cmItem M (σ, s) k).1.2.1.length = σ.2.1.length := by
  obtain ⟨a1, a2, a3, a4, a5⟩ := one_sl H hk (d := 6) (Or.inr rfl)
  have hk2 : k < (setI σ k (psn ρ k 6 (slN ρ k 6))).2.1.length := by rw [setI_len]; exact hk
  have hk' : k < ρ.2.1.length := by rw [← H.n.1]; exact hk
  obtain ⟨b1, b2, b3, b4, -⟩ := one_sl a2 hk2 (d := 4) (Or.inl rfl)
  have h8 := H.n.2
  -- the second slide uses the places of the first
  obtain ⟨n, g1, g2, g3, g4, g5⟩ := mv_gen a2 hk2 (d46 (Or.inl rfl)) (d := 4) (Os := mvO M σ k) (bx := mvB M σ k) fun x y hp => by
    have f := mv_free H hk hp
    have r : (rit (rcOne ρ k 6) k).1 = (rit ρ k).1 := by unfold rcOne; rw [rit_setS hk']
    rw [r]
    unfold rcOne
    rw [fit_self hk' (by rw [← H.n.1]; exact h8)]
    exact f
  have en := slN_eq g2
  obtain ⟨-, -, ⟨c3, c4⟩, -⟩ := a2.it hk2
  have e1 : iX (setI σ k (mvI M σ k 6).2) k = (rit (rcOne ρ k 6) k).2.1 := by rw [a5]; exact c3
  have e2 : iY (setI σ k (mvI M σ k 6).2) k = (rit (rcOne ρ k 6) k).2.2 := by rw [a5]; exact c4
  have e3 : mvN (mvO M σ k) (mvB M σ k) 4 (iX (setI σ k (mvI M σ k 6).2) k) (iY (setI σ k (mvI M σ k 6).2) k) = (slN (rcOne ρ k 6) k 4, psn (rcOne ρ k 6) k 4 (slN (rcOne ρ k 6) k 4)) := by
    rw [e1, e2, g3, en]
  refine ⟨?_, ?_, ?_, by rw [cmItem_len]⟩
  · unfold cmItem rcItem
    dsimp only
    rw [e3, a5]
    exact b2
  · unfold cmItem rcItem
    dsimp only
    rw [e3, a5, e, i32_add, i32_add]
  · unfold rcItem
    dsimp only
    omega
theorem cm_round (H : StR M σ ρ) : ∀ j, j ≤ σ.2.1.length → StR M (cmR M σ j).1 (rcR ρ j).1 ∧ (cmR M σ j).2 = Int32.ofNat (rcR ρ j).2 ∧ potL (rcR ρ j).1 + (rcR ρ j).2 = potL ρ := fun j => by
  induction j with
  | zero => intro _; exact ⟨H, rfl, rfl⟩
  | succ j ih =>
    intro hj
    obtain ⟨i1, i2, i3⟩ := ih (by omega)
    rw [cmR_succ, rcR_succ]
    have l := cmR_len (M := M) (σ := σ) (j := j)
    obtain ⟨c1, c2, c3, -⟩ := cm_item (k := j) i1 (by rw [l]; omega) i2
    have c3 : potL (rcItem (rcR ρ j) j).1 + (rcItem (rcR ρ j) j).2 = potL (rcR ρ j).1 + (rcR ρ j).2 := c3
    exact ⟨c1, c2, by omega⟩
theorem cm_go : ∀ p σ ρ (st : Int32) (t T f : Nat) (mv : Int32), StR M σ ρ → potL ρ ≤ p → p ≤ T → p < f → ¬ mv ≤ 0 → st = Int32.ofNat t → StR M (cmGo M (T + 1) σ st mv).1 (rcGo f ρ t).1 ∧ (cmGo M (T + 1) σ st mv).2 = Int32.ofNat (rcGo f ρ t).2 ∧ t ≤ (rcGo f ρ t).2 ∧ potL (rcGo f ρ t).1 + (rcGo f ρ t).2 = potL ρ + t := fun p => by
  induction p using Nat.strongRecOn with
  | _ p ih =>
    intro σ ρ st t T f mv H hp hT hf hm e
    obtain ⟨f, rfl⟩ : ∃ u, f = u + 1 := ⟨f - 1, by omega⟩
    rw [cmGo_succ, if_neg hm, rcGo_succ]
    have n := H.n
    obtain ⟨r1, r2, r3⟩ := cm_round H σ.2.1.length (Nat.le_refl _)
    rw [n.1] at r1 r2 r3 ⊢
    have pb := gd_cmp.2.2.2 ρ ⟨M, σ, H⟩
    by_cases z : (rcR ρ ρ.2.1.length).2 = 0
    · rw [if_pos z]
      have z2 : (cmR M σ ρ.2.1.length).2 = 0 := by rw [r2, z]; rfl
      rw [z2, Int32.add_zero]
      have done : cmGo M T (cmR M σ ρ.2.1.length).1 st 0 = ((cmR M σ ρ.2.1.length).1, st) := by
        cases T with
        | zero => rfl
        | succ T => rw [cmGo_succ, if_pos (by decide)]
      rw [done]
      exact ⟨r1, e, Nat.le_refl _, by dsimp only; omega⟩
    · rw [if_neg z]
      obtain ⟨T, rfl⟩ : ∃ u, T = u + 1 := ⟨T - 1, by omega⟩
      have pos : ¬ (cmR M σ ρ.2.1.length).2 ≤ 0 := by
        rw [r2]
        intro q
        have := (i32_le (j := 0) (by omega) (by omega)).mp q
        omega
      obtain ⟨a, b, c, d⟩ := ih (p - 1) (by omega) _ _ (st + (cmR M σ ρ.2.1.length).2) (t + (rcR ρ ρ.2.1.length).2) T f (cmR M σ ρ.2.1.length).2 r1 (by omega) (by omega) (by omega) pos (by rw [e, r2, i32_add])
      exact ⟨a, b, by omega, by omega⟩
/-- what a round without a move tells -/
theorem rc_still (H : StR M σ ρ) : ∀ j, j ≤ ρ.2.1.length → (rcR ρ j).2 = 0 → (rcR ρ j).1 = ρ ∧ ∀ i, i < j → slN ρ i 6 = 0 ∧ slN ρ i 4 = 0 := fun j => by
  induction j with
  | zero => intro _ _; exact ⟨rfl, fun i hi => by omega⟩
  | succ j ih =>
    intro hj z
    rw [rcR_succ] at z ⊢
    unfold rcItem at z ⊢
    dsimp only at z ⊢
    obtain ⟨i1, i2⟩ := ih (by omega) (by omega)
    rw [i1] at z ⊢
    have z6 : slN ρ j 6 = 0 := by omega
    have o6 : rcOne ρ j 6 = ρ := by
      unfold rcOne
      rw [z6, psnZ, rSet_self (by omega)]
    rw [o6] at z ⊢
    have z4 : slN ρ j 4 = 0 := by omega
    have o4 : rcOne ρ j 4 = ρ := by
      unfold rcOne
      rw [z4, psnZ, rSet_self (by omega)]
    refine ⟨o4, fun i hi => ?_⟩
    by_cases c : i = j
    · subst c; exact ⟨z6, z4⟩
    · exact i2 i (by omega)
theorem rc_none (H : StR M σ ρ) (h : ∀ i, i < ρ.2.1.length → slN ρ i 6 = 0 ∧ slN ρ i 4 = 0) : ∀ j, j ≤ ρ.2.1.length → rcR ρ j = (ρ, 0) := fun j => by
  induction j with
  | zero => intro _; rfl
  | succ j ih =>
    intro hj
    rw [rcR_succ, ih (by omega)]
    obtain ⟨z6, z4⟩ := h j (by omega)
    have o6 : rcOne ρ j 6 = ρ := by
      unfold rcOne
      rw [z6, psnZ, rSet_self (by omega)]
    have o4 : rcOne ρ j 4 = ρ := by
      unfold rcOne
      rw [z4, psnZ, rSet_self (by omega)]
    unfold rcItem
    dsimp only
    rw [o6, o4, z6, z4]
theorem can_iff (H : StR M σ ρ) : rCan ρ = false ↔ ∀ i, i < ρ.2.1.length → slN ρ i 6 = 0 ∧ slN ρ i 4 = 0 := by
  have n := H.n
  have p6 : ∀ i, rFitT ρ i 6 1 = rFit ρ (rit ρ i).1 (rit ρ i).2.1 ((rit ρ i).2.2 - 1) (Int32.ofNat i) := fun i => by
    unfold rFitT psn
    have e1 : dxR 6 = 0 := by decide
    have e2 : dyR 6 = -1 := by decide
    rw [e1, e2, show Int32.ofNat 1 = 1 from rfl, Int32.mul_zero, Int32.one_mul, Int32.add_zero, ← Int32.sub_eq_add_neg]
  have p4 : ∀ i, rFitT ρ i 4 1 = rFit ρ (rit ρ i).1 ((rit ρ i).2.1 - 1) (rit ρ i).2.2 (Int32.ofNat i) := fun i => by
    unfold rFitT psn
    have e1 : dxR 4 = -1 := by decide
    have e2 : dyR 4 = 0 := by decide
    rw [e1, e2, show Int32.ofNat 1 = 1 from rfl, Int32.mul_zero, Int32.one_mul, Int32.add_zero, ← Int32.sub_eq_add_neg]
  have zero : ∀ i d, i < ρ.2.1.length → (d = 4 ∨ d = 6) → (slN ρ i d = 0 ↔ rFitT ρ i d 1 = false) := fun i d hi hd => by
    obtain ⟨S, -⟩ := one_sl H (k := i) (by rw [n.1]; exact hi) hd
    constructor
    · intro z
      rw [z] at S
      exact S.2.2
    · intro z
      by_cases c : slN ρ i d = 0
      · exact c
      · have := S.2.1 0 (by omega)
        rw [show (0 : Nat) + 1 = 1 from rfl, z] at this
        exact absurd this (by decide)
  unfold rCan
  rw [List.any_eq_false]
  constructor
  · intro h i hi
    have := h i (List.mem_range.mpr hi)
    rw [← p6, ← p4] at this
    have q : rFitT ρ i 6 1 = false ∧ rFitT ρ i 4 1 = false := by
      cases a : rFitT ρ i 6 1 <;> cases b : rFitT ρ i 4 1 <;> rw [a, b] at this <;> simp at this ⊢
    exact ⟨(zero i 6 hi (Or.inr rfl)).mpr q.1, (zero i 4 hi (Or.inl rfl)).mpr q.2⟩
  · intro h i hi
    have hi := List.mem_range.mp hi
    obtain ⟨a, b⟩ := h i hi
    rw [← p6, ← p4, (zero i 6 hi (Or.inr rfl)).mp a, (zero i 4 hi (Or.inl rfl)).mp b]
    decide
theorem q_compact (H : Ful M σ vs ρ ps) : (cCompact M σ vs).1 = (rCompact ρ ps 100000).1 ∧ Ful M (cCompact M σ vs).2.1 (cCompact M σ vs).2.2 (rCompact ρ ps 100000).2.1 (rCompact ρ ps 100000).2.2 := by
  have pb := gd_cmp.2.2.2 ρ ⟨M, σ, H.1⟩
  obtain ⟨a, b, -, d⟩ := cm_go (M := M) (potL ρ) σ ρ 0 0 999999 100000 1 H.1 (Nat.le_refl _) (by omega) pb (by decide) rfl
  have a : StR M (cmN M σ).1 (rcGo 100000 ρ 0).1 := a
  have b : (cmN M σ).2 = Int32.ofNat (rcGo 100000 ρ 0).2 := b
  have step : rcGo 100000 ρ 0 = if (rcR ρ ρ.2.1.length).2 = 0 then ((rcR ρ ρ.2.1.length).1, 0) else rcGo 99999 (rcR ρ ρ.2.1.length).1 (0 + (rcR ρ ρ.2.1.length).2) := rcGo_succ (f := 99999)
  unfold cCompact rCompact
  by_cases c : rCan ρ = true
  · have nz : (rcR ρ ρ.2.1.length).2 ≠ 0 := fun z => by
      have := (can_iff H.1).mpr (rc_still H.1 _ (Nat.le_refl _) z).2
      rw [c] at this; exact absurd this (by decide)
    have pos : 0 < (rcGo 100000 ρ 0).2 := by
      rw [step, if_neg nz]
      have n := H.1.n
      obtain ⟨r1, r2, r3⟩ := cm_round H.1 σ.2.1.length (Nat.le_refl _)
      rw [n.1] at r1 r2 r3
      obtain ⟨-, -, g, -⟩ := cm_go (M := M) (potL (rcR ρ ρ.2.1.length).1) _ _ (Int32.ofNat (0 + (rcR ρ ρ.2.1.length).2)) (0 + (rcR ρ ρ.2.1.length).2) 999999 99999 1 r1 (Nat.le_refl _) (by omega) (by omega) (by decide) rfl
      omega
    rw [if_pos c, if_neg fun z => by
      rw [b] at z
      have := i32_inj (n := 0) (by omega) (by omega) z
      omega]
    exact ⟨b, H.push a⟩
  · have c' : rCan ρ = false := by simpa using c
    have none := rc_none H.1 ((can_iff H.1).mp c') _ (Nat.le_refl _)
    have e : rcGo 100000 ρ 0 = (ρ, 0) := by rw [step, none]; rfl
    rw [e] at a b
    rw [if_neg c, if_pos (by rw [b]; rfl)]
    exact ⟨rfl, a, H.2⟩
end CM
