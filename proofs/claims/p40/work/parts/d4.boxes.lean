/-! the bounding box, touching pairs -/
section BT
variable {M : Nat → SH} {σ : SV} {ρ : RV}
theorem mm_fold (f : Nat → Int32) (s : Int32) : ∀ r, ∃ k, k ≤ r ∧ (List.range r).foldl (fun b k => (fun v : Int32 => if (2 : Int32) ≤ s then (if b < v then v else b) else (if v < b then v else b)) (f (k + 1))) (f 0) = f k ∧ ∀ j, j ≤ r → if (2 : Int32) ≤ s then (f j).toInt ≤ (f k).toInt else (f k).toInt ≤ (f j).toInt := fun r => by
  induction r with
  | zero =>
    refine ⟨0, Nat.le_refl _, rfl, fun j hj => ?_⟩
    have : j = 0 := by omega
    subst this
    split <;> exact Int.le_refl _
  | succ r ih =>
    obtain ⟨k, h1, h2, h3⟩ := ih
    rw [fold_succ, h2]
    dsimp only
    by_cases c : (2 : Int32) ≤ s
    · simp only [c, if_true] at h3 ⊢
      by_cases d : f k < f (r + 1)
      · rw [if_pos d]
        rw [Int32.lt_iff_toInt_lt] at d
        refine ⟨r + 1, Nat.le_refl _, rfl, fun j hj => ?_⟩
        by_cases z : j = r + 1
        · subst z; exact Int.le_refl _
        · have := h3 j (by omega); omega
      · rw [if_neg d]
        rw [Int32.lt_iff_toInt_lt] at d
        refine ⟨k, by omega, rfl, fun j hj => ?_⟩
        by_cases z : j = r + 1
        · subst z; omega
        · exact h3 j (by omega)
    · simp only [c, if_false] at h3 ⊢
      by_cases d : f (r + 1) < f k
      · rw [if_pos d]
        rw [Int32.lt_iff_toInt_lt] at d
        refine ⟨r + 1, Nat.le_refl _, rfl, fun j hj => ?_⟩
        by_cases z : j = r + 1
        · subst z; exact Int.le_refl _
        · have := h3 j (by omega); omega
      · rw [if_neg d]
        rw [Int32.lt_iff_toInt_lt] at d
        refine ⟨k, by omega, rfl, fun j hj => ?_⟩
        by_cases z : j = r + 1
        · subst z; omega
        · exact h3 j (by omega)
/-- the class's side of an item, and the reference's -/
theorem is_bv (H : StR M σ ρ) {s : Int32} (hs : s = 0 ∨ s = 1 ∨ s = 2 ∨ s = 3) {k : Nat} (hk : k < σ.2.1.length) : ((-100 ≤ (isV M σ k s).toInt ∧ (isV M σ k s).toInt ≤ 100) ∧ (rbv ρ s k).toInt = (rsgn s).toInt * (isV M σ k s).toInt) ∧ ((2 : Int32) ≤ s ∧ (rsgn s).toInt = 1 ∨ ¬ (2 : Int32) ≤ s ∧ (rsgn s).toInt = -1) := by
  obtain ⟨a1, a2, ⟨a3, a4⟩, a5⟩ := H.it hk
  obtain ⟨⟨b1, b2, b3, b4⟩, ⟨l1, l2⟩, ⟨m1, m2⟩, ⟨r1, r2⟩, t1, t2⟩ := box_eq a1 a2
  obtain ⟨p1, p2, p3, p4⟩ := a5
  have ng : ∀ a : Int32, -100 ≤ a.toInt → a.toInt ≤ 100 → (-a).toInt = -a.toInt := fun a h1 h2 => by
    have := i32_subE (x := 0) (y := a) (by decide) (by decide) (by omega) (by omega)
    rw [Int32.zero_sub] at this
    rw [this]; show 0 - a.toInt = _; omega
  have n1 : ∀ a : Int32, (-1 : Int32) * a = -a := fun a => by rw [show (-1 : Int32) = -(1) from rfl, Int32.neg_mul, Int32.one_mul]
  have nl := ng _ (show -100 ≤ (pfold (itM M σ k).flatten).2.2.2.1.toInt by omega) (by omega)
  have nm := ng _ (show -100 ≤ (pfold (itM M σ k).flatten).2.2.2.2.1.toInt by omega) (by omega)
  have nX := ng _ (show -100 ≤ (rit ρ k).2.1.toInt by omega) (by omega)
  have nY := ng _ (show -100 ≤ (rit ρ k).2.2.toInt by omega) (by omega)
  unfold isV rbv bxS
  rw [a3, a4]
  rcases hs with rfl | rfl | rfl | rfl
  · have e : rsgn 0 = -1 := by decide
    rw [if_pos (by decide), if_pos (by decide), e, b1, n1, i32_addE (by omega) (by omega) (by omega) (by omega), i32_addE (by omega) (by omega) (by omega) (by omega), nl, nX]
    have z : (-1 : Int32).toInt = -1 := by decide
    rw [z]
    exact ⟨⟨⟨by omega, by omega⟩, by omega⟩, Or.inr ⟨by decide, rfl⟩⟩
  · have e : rsgn 1 = -1 := by decide
    rw [if_neg (by decide), if_pos (by decide), if_neg (by decide), e, b2, n1, i32_addE (by omega) (by omega) (by omega) (by omega), i32_addE (by omega) (by omega) (by omega) (by omega), nm, nY]
    have z : (-1 : Int32).toInt = -1 := by decide
    rw [z]
    exact ⟨⟨⟨by omega, by omega⟩, by omega⟩, Or.inr ⟨by decide, rfl⟩⟩
  · have e : rsgn 2 = 1 := by decide
    rw [if_neg (by decide), if_neg (by decide), if_pos (by decide), if_pos (by decide), e, b3, Int32.one_mul, i32_addE (by omega) (by omega) (by omega) (by omega), i32_addE (by omega) (by omega) (by omega) (by omega)]
    have z : (1 : Int32).toInt = 1 := by decide
    rw [z]
    exact ⟨⟨⟨by omega, by omega⟩, by omega⟩, Or.inl ⟨by decide, rfl⟩⟩
  · have e : rsgn 3 = 1 := by decide
    rw [if_neg (by decide), if_neg (by decide), if_neg (by decide), if_neg (by decide), e, b4, Int32.one_mul, i32_addE (by omega) (by omega) (by omega) (by omega), i32_addE (by omega) (by omega) (by omega) (by omega)]
    have z : (1 : Int32).toInt = 1 := by decide
    rw [z]
    exact ⟨⟨⟨by omega, by omega⟩, by omega⟩, Or.inl ⟨by decide, rfl⟩⟩
theorem side4 {s : Int32} (h1 : ¬ s < 0) (h2 : s ≤ 3) : s = 0 ∨ s = 1 ∨ s = 2 ∨ s = 3 := by
  rw [Int32.lt_iff_toInt_lt] at h1
  rw [Int32.le_iff_toInt_le] at h2
  have z0 : (0 : Int32).toInt = 0 := by decide
  have z1 : (1 : Int32).toInt = 1 := by decide
  have z2 : (2 : Int32).toInt = 2 := by decide
  have z3 : (3 : Int32).toInt = 3 := by decide
  rw [← Int32.toInt_inj, ← Int32.toInt_inj, ← Int32.toInt_inj, ← Int32.toInt_inj]
  omega
theorem q_box (H : StR M σ ρ) (s : Int32) : cBB M σ s = rBB ρ s := ifC_cong ⟨fun h => ⟨h.1, i32_not_lt.mpr h.2⟩, fun h => ⟨h.1, i32_not_lt.mp h.2⟩⟩ (fun h => by
  have n8 := H.n
  have hs := side4 h.1 h.2
  rw [← n8.1]
  by_cases c : σ.2.1.length = 0
  · rw [if_pos c, if_pos c]
  · rw [if_neg c, if_neg c]
    obtain ⟨k, k1, k2, k3⟩ := mm_fold (fun k => isV M σ k s) s (σ.2.1.length - 1)
    have k2 : (List.range (σ.2.1.length - 1)).foldl (bbStep M σ s) (isV M σ 0 s) = isV M σ k s := k2
    rw [k2]
    have bv := fun (j : Nat) (hj : j < σ.2.1.length) => is_bv H hs hj
    obtain ⟨v, v1, v2, v3⟩ := up_fold (rbv ρ s) σ.2.1.length (by omega) fun j hj => by
      obtain ⟨⟨⟨b1, b2⟩, b3⟩, b4⟩ := bv j hj
      rw [b3]
      rcases b4 with ⟨-, b4⟩ | ⟨-, b4⟩ <;> rw [b4] <;> omega
    have v2 : rbf ρ s σ.2.1.length = rbv ρ s v := v2
    rw [v2]
    obtain ⟨⟨⟨b1, b2⟩, b3⟩, b4⟩ := bv v v1
    obtain ⟨⟨⟨c1, c2⟩, c3⟩, -⟩ := bv k (by omega)
    have kv := k3 v (by omega)
    have vk := v3 k (by omega)
    have rs : -1 ≤ (rsgn s).toInt ∧ (rsgn s).toInt ≤ 1 := by rcases b4 with ⟨-, b4⟩ | ⟨-, b4⟩ <;> rw [b4] <;> omega
    have m := i32_mulE (x := rsgn s) (y := rbv ρ s v) (by omega) (by omega) (by rw [b3]; rcases b4 with ⟨-, b4⟩ | ⟨-, b4⟩ <;> rw [b4] <;> omega) (by rw [b3]; rcases b4 with ⟨-, b4⟩ | ⟨-, b4⟩ <;> rw [b4] <;> omega)
    apply Int32.toInt_inj.mp
    rw [m.1]
    rw [b3, c3] at vk
    rw [b3]
    rcases b4 with ⟨b5, b4⟩ | ⟨b5, b4⟩
    · rw [if_pos b5] at kv
      rw [b4] at vk ⊢
      omega
    · rw [if_neg b5] at kv
      rw [b4] at vk ⊢
      omega) fun _ => rfl
/-! touching pairs -/
def sT (T : Nat → Nat → Int32) (a : Nat) (l : List Nat) (s : Int32) : Int32 := l.foldl (fun s b => s + T a b) s
theorem sT_add (T : Nat → Nat → Int32) (a : Nat) : ∀ (l : List Nat) (s : Int32), sT T a l s = s + sT T a l 0 := fun l => by
  induction l with
  | nil => intro s; exact (Int32.add_zero s).symm
  | cons b l ih =>
    intro s
    show sT T a l (s + T a b) = s + sT T a l (0 + T a b)
    rw [ih, ih (0 + T a b), Int32.zero_add, Int32.add_assoc]
theorem sT_app (T : Nat → Nat → Int32) (a : Nat) (l : List Nat) (b : Nat) : sT T a (l ++ [b]) 0 = sT T a l 0 + T a b := by
  unfold sT; rw [List.foldl_append]; rfl
/-- sums over pairs, by the lower number, and by the greater -/
def sC (T : Nat → Nat → Int32) (n m : Nat) : Int32 := (List.range m).foldl (fun s a => s + sT T a (List.range' (a + 1) (n - (a + 1))) 0) 0
def sR (T : Nat → Nat → Int32) (n : Nat) : Int32 := (List.range n).foldl (fun s a => s + (List.range a).foldl (fun s b => s + T b a) 0) 0
theorem sC_n (T : Nat → Nat → Int32) (n : Nat) : ∀ m, m ≤ n → sC T (n + 1) m = sC T n m + (List.range m).foldl (fun s b => s + T b n) 0 := fun m => by
  induction m with
  | zero => intro _; rfl
  | succ m ih =>
    intro h
    have ih := ih (by omega)
    unfold sC at *
    rw [fold_succ, fold_succ, fold_succ, ih, show n + 1 - (m + 1) = (n - (m + 1)) + 1 by omega, List.range'_concat, sT_app, show m + 1 + 1 * (n - (m + 1)) = n by omega]
    generalize (List.range m).foldl (fun s a => s + sT T a (List.range' (a + 1) (n - (a + 1))) 0) 0 = x
    generalize (List.range m).foldl (fun s b => s + T b n) 0 = y
    generalize sT T m (List.range' (m + 1) (n - (m + 1))) 0 = u
    generalize T m n = v
    rw [Int32.add_assoc, Int32.add_assoc, ← Int32.add_assoc y, Int32.add_comm y u, Int32.add_assoc]
theorem sC_sR (T : Nat → Nat → Int32) : ∀ n, sC T n n = sR T n := fun n => by
  induction n with
  | zero => rfl
  | succ n ih =>
    have e : sC T (n + 1) (n + 1) = sC T (n + 1) n := by
      unfold sC
      rw [fold_succ, show n + 1 - (n + 1) = 0 by omega]
      exact Int32.add_zero _
    rw [e, sC_n T n n (Nat.le_refl _), ih]
    unfold sR
    rw [fold_succ]
theorem flat_sum (T : Nat → Nat → Int32) (n : Nat) : ∀ (l : List Nat) (s : Int32), (l.flatMap fun a => (List.range' (a + 1) (n - (a + 1))).map fun b => (a, b)).foldl (fun s ij => s + T ij.1 ij.2) s = l.foldl (fun s a => s + sT T a (List.range' (a + 1) (n - (a + 1))) 0) s := fun l => by
  induction l with
  | nil => intro s; rfl
  | cons a l ih =>
    intro s
    rw [List.flatMap_cons, List.foldl_append, List.foldl_cons, ih]
    congr 1
    rw [List.foldl_map]
    exact sT_add T a _ s
theorem lie_sym (H : StR M σ ρ) {i j : Nat} (hi : i < σ.2.1.length) (hj : j < σ.2.1.length) : relP (itM M σ i) (itM M σ j) (iX σ j - iX σ i) (iY σ j - iY σ i) = liePR (rit ρ j).1 (rit ρ i).1 ((rit ρ i).2.1 - (rit ρ j).2.1) ((rit ρ i).2.2 - (rit ρ j).2.2) := by
  obtain ⟨a1, a2, ⟨a3, a4⟩, a5⟩ := H.it hi
  obtain ⟨b1, b2, ⟨b3, b4⟩, b5⟩ := H.it hj
  have bd := (np_sub b5 a5).1
  rw [a3, a4, b3, b4, rel_eq a1 b1 bd]
  obtain ⟨s0, s1⟩ := any_sym (r := 0) a1.rp b1.rp (by decide) (by decide) bd
  rw [Int32.neg_sub, Int32.neg_sub] at s0 s1
  unfold liePR
  rw [s0, s1]
theorem q_touch (H : StR M σ ρ) : cTouch M σ = rTouch ρ ρ.2.1.length := by
  have n8 := H.n
  rw [← n8.1]
  obtain ⟨T, hT⟩ : ∃ T : Nat → Nat → Int32, T = fun a b => if liePR (rit ρ b).1 (rit ρ a).1 ((rit ρ a).2.1 - (rit ρ b).2.1) ((rit ρ a).2.2 - (rit ρ b).2.2) = 1 then 1 else 0 := ⟨_, rfl⟩
  have c : cTouch M σ = sC T σ.2.1.length σ.2.1.length := by
    unfold cTouch tpGo
    have e : ∀ (l : List (Nat × Nat)) (s : Int32), (∀ ab, ab ∈ l → ab.1 < σ.2.1.length ∧ ab.2 < σ.2.1.length) → l.foldl (fun s ij => if relP (itM M σ ij.1) (itM M σ ij.2) (iX σ ij.2 - iX σ ij.1) (iY σ ij.2 - iY σ ij.1) = 1 then s + 1 else s) s = l.foldl (fun s ij => s + T ij.1 ij.2) s := fun l => by
      induction l with
      | nil => intro s _; rfl
      | cons ab l ih =>
        intro s hl
        have m := hl ab (List.mem_cons_self ..)
        rw [List.foldl_cons, List.foldl_cons, ih _ fun x hx => hl x (List.mem_cons_of_mem _ hx), lie_sym H m.1 m.2, hT]
        dsimp only
        congr 1
        split
        · rfl
        · exact (Int32.add_zero s).symm
    rw [e _ _ fun ab h => pr2_mem (Nat.le_refl _) (fun q => absurd q (Nat.lt_irrefl _)) (fun _ => Nat.le_refl _) h]
    unfold pr2 sC
    rw [show σ.2.1.length + 1 - (σ.2.1.length + 1) = 0 by omega]
    show ((_ : List (Nat × Nat)) ++ []).foldl _ _ = _
    rw [List.append_nil]
    exact flat_sum T _ _ _
  rw [c, sC_sR]
  unfold sR rTouch
  refine fold_cong _ _ fun s a _ => ?_
  unfold rtcA
  rw [hT]
  dsimp only
  have ad : ∀ (F : Nat → Int32) (l : List Nat) (s : Int32), l.foldl (fun s b => s + F b) s = s + l.foldl (fun s b => s + F b) 0 := fun F l s => sT_add (fun _ => F) 0 l s
  exact (ad (fun b => if liePR (rit ρ a).1 (rit ρ b).1 ((rit ρ b).2.1 - (rit ρ a).2.1) ((rit ρ b).2.2 - (rit ρ a).2.2) = 1 then 1 else 0) _ s).symm
end BT
