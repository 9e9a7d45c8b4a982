/-! polygons: the vertices in the order in which they came; numbered from the lowest one -/
theorem snoc_ind {α : Type} {P : List α → Prop} (h0 : P []) (hs : ∀ l a, P l → P (l ++ [a])) : ∀ l, P l := fun l => by
  rw [← List.reverse_reverse l]
  induction l.reverse with
  | nil => exact h0
  | cons a t ih => rw [List.reverse_cons]; exact hs _ _ ih
abbrev PT : Type := Int32 × Int32
abbrev PS : Type := Nat × Nat × Int32 × Int32 × Int32 × Int32 × Int32
def pstep (s : PS) (v : PT) : PS := match s with
  | (n, low, lx, l, b, r, t) => (n + 1, if n = 0 then 0 else if v.2 < b then n else if v.2 = b ∧ ¬ lx ≤ v.1 then n else low, if n = 0 then v.1 else if v.2 < b then v.1 else if v.2 = b ∧ ¬ lx ≤ v.1 then v.1 else lx, if n = 0 then v.1 else if l ≤ v.1 then l else v.1, if n = 0 then v.2 else if b ≤ v.2 then b else v.2, if n = 0 then v.1 else if v.1 ≤ r then r else v.1, if n = 0 then v.2 else if v.2 ≤ t then t else v.2)
def pfold (V : List PT) : PS := V.foldl pstep (0, 0, 0, 0, 0, 0, 0)
theorem pfold_snoc {V : List PT} {v : PT} : pfold (V ++ [v]) = pstep (pfold V) v := by simp [pfold, List.foldl_append]
def low (V : List PT) : Nat := (pfold V).2.1
theorem pfold_n : ∀ V : List PT, (pfold V).1 = V.length := snoc_ind rfl fun l a ih => by rw [pfold_snoc]; simp [pstep, ih]
theorem pfold_low : ∀ V : List PT, V ≠ [] → low V < V.length ∧ (pfold V).2.2.1 = (V.getD (low V) (0, 0)).1 := snoc_ind (fun h => absurd rfl h) fun l a ih _ => by
  unfold low
  rw [pfold_snoc]
  simp only [pstep]
  have hn := pfold_n l
  rw [getD_app, List.length_append, hn]
  by_cases c : l.length = 0
  · have : l = [] := List.eq_nil_of_length_eq_zero c
    subst this
    simp
  · have hne : l ≠ [] := fun h => c (by rw [h]; rfl)
    obtain ⟨i1, i2⟩ := ih hne
    simp only [c, if_false]
    by_cases c1 : a.2 < (pfold l).2.2.2.2.1
    · simp [c1]
    · by_cases c2 : a.2 = (pfold l).2.2.2.2.1 ∧ ¬ (pfold l).2.2.1 ≤ a.1
      · simp only [c1, if_false, c2, if_true]
        simp
      · simp only [c1, if_false, c2]
        unfold low at i1 i2
        rw [if_pos i1]
        exact ⟨Nat.lt_of_lt_of_le i1 (Nat.le_add_right _ _), i2⟩
def PolyAt (h : AH) (a : Nat) (V : List PT) : Prop := ∃ (lw l b r t : Int32) (xs ys : List Int32),
  h[a]? = some (.inr (5, [aP (some (a + 1)), aP (some (a + 2)), aI (Int32.ofNat V.length), aI lw, aI l, aI b, aI r, aI t])) ∧ (h[a + 1]? = some (.inl (0, xs)) ∧ xs.length = 18) ∧ (h[a + 2]? = some (.inl (0, ys)) ∧ ys.length = 18) ∧ V.length ≤ 18 ∧ (∀ j, j < V.length → (xs.getD j 0, ys.getD j 0) = V.getD j (0, 0)) ∧ (V ≠ [] → (lw, l, b, r, t) = (Int32.ofNat (low V), (pfold V).2.2.2))
theorem PolyAt.fr {h h' : AH} {a lo hi : Nat} {V : List PT} (H : PolyAt h a V) (f : Fr lo hi h h') (d : a + 3 ≤ lo ∨ hi ≤ a) : PolyAt h' a V := by
  obtain ⟨lw, l, b, r, t, xs, ys, h1, h2, h3, h4⟩ := H
  exact ⟨lw, l, b, r, t, xs, ys, (f.2 _ (by omega)).trans h1, ⟨(f.2 _ (by omega)).trans h2.1, h2.2⟩, ⟨(f.2 _ (by omega)).trans h3.1, h3.2⟩, h4⟩
/-- vertex k, numbered from the lowest one; k may be the number of vertices -/
def vAt (V : List PT) (k : Nat) : PT := V.getD (if low V + k < V.length then low V + k else low V + k - V.length) (0, 0)
section PO
variable {E : EV} {h : AH} {a : Nat} {V : List PT}
theorem s5_clear (H : PolyAt h a V) : sX5_clear E [aP (some a)] h (kV fun h' => PolyAt h' a [] ∧ Fr a (a + 3) h h') := by
  obtain ⟨lw, l, b, r, t, xs, ys, h1, h2, h3, h4, -⟩ := H
  refine eX5_clear ?_
  unfold PX5_clear_0
  exact (wr_iff h1).mpr ⟨Nat.le_of_ble_eq_true rfl, rfl, ⟨lw, l, b, r, t, xs, ys, gs h1, ⟨gsn (by omega) h2.1, h2.2⟩, ⟨gsn (by omega) h3.1, h3.2⟩, by simp, fun j hj => by simp at hj, fun c => absurd rfl c⟩, Fr.set (by omega) (by omega)⟩
theorem i32_add {m n : Nat} : Int32.ofNat m + Int32.ofNat n = Int32.ofNat (m + n) := (Int32.ofNat_add _ _).symm
theorem i32_sub {m n : Nat} (h1 : n ≤ m) (h2 : m < 2147483648) : Int32.ofNat m - Int32.ofNat n = Int32.ofNat (m - n) := by
  rw [← Int32.toInt_inj, Int32.toInt_sub, i32_lt (by omega), i32_lt (by omega), i32_lt (by omega)]
  simp only [Int.bmod]; omega
theorem s5_x (H : PolyAt h a V) (hne : V ≠ []) {k : Nat} (hk : k ≤ V.length) : sX5_x E [aP (some a), aI (Int32.ofNat k)] h (kI fun r h' => r = (vAt V k).1 ∧ h' = h) := by
  obtain ⟨lw, l, b, r, t, xs, ys, h1, h2, h3, h4, ag, hf⟩ := H
  obtain ⟨l1, -⟩ := pfold_low V hne
  have hlw := congrArg Prod.fst (hf hne)
  dsimp only at hlw
  subst hlw
  have fin : ∀ m, m < V.length → m = (if low V + k < V.length then low V + k else low V + k - V.length) → PX5_x_22 E (kI fun r h' => r = (vAt V k).1 ∧ h' = h) h (some a) (Int32.ofNat m) := by
    intro m hm em
    unfold PX5_x_22
    refine ⟨fun c => absurd c (i32_nn (by omega)), fun _ => (rdP_iff h1).mpr ⟨_, rfl, (alenI_iff h2.1).mpr ?_⟩⟩
    rw [h2.2]
    refine ⟨fun c => absurd ((i32_le (by omega) (by omega)).mp c) (by omega), fun _ => (rdP_iff h1).mpr ⟨_, rfl, aldI_of h2.1 (i32_nn (by omega)) (by rw [i32_n (by omega)]; exact getD_get (by omega)) ⟨_, rfl, ?_, rfl⟩⟩⟩
    have := ag m hm
    unfold vAt
    rw [← em, ← this]
  refine eX5_x ?_
  unfold PX5_x_0
  refine (rdI_iff h1).mpr ⟨_, rfl, fun v2 e2 => (rdI_iff h1).mpr ⟨_, rfl, fun c => ?_, fun c => (rdI_iff h1).mpr ⟨_, rfl, fun v5 e5 => ?_⟩⟩⟩
  · rw [e2, i32_add] at c ⊢
    have hc := (i32_ltn (by omega) (by omega)).mp c
    exact fin _ hc (by rw [if_pos hc])
  · rw [e2, i32_add] at c e5
    have hc := mt (i32_ltn (i := low V + k) (j := V.length) (by omega) (by omega)).mpr c
    rw [e5, i32_sub (by omega) (by omega)]
    exact fin _ (by omega) (by rw [if_neg hc])
theorem s5_y (H : PolyAt h a V) (hne : V ≠ []) {k : Nat} (hk : k ≤ V.length) : sX5_y E [aP (some a), aI (Int32.ofNat k)] h (kI fun r h' => r = (vAt V k).2 ∧ h' = h) := by
  obtain ⟨lw, l, b, r, t, xs, ys, h1, h2, h3, h4, ag, hf⟩ := H
  obtain ⟨l1, -⟩ := pfold_low V hne
  have hlw := congrArg Prod.fst (hf hne)
  dsimp only at hlw
  subst hlw
  have fin : ∀ m, m < V.length → m = (if low V + k < V.length then low V + k else low V + k - V.length) → PX5_y_22 E (kI fun r h' => r = (vAt V k).2 ∧ h' = h) h (some a) (Int32.ofNat m) := by
    intro m hm em
    unfold PX5_y_22
    refine ⟨fun c => absurd c (i32_nn (by omega)), fun _ => (rdP_iff h1).mpr ⟨_, rfl, (alenI_iff h3.1).mpr ?_⟩⟩
    rw [h3.2]
    refine ⟨fun c => absurd ((i32_le (by omega) (by omega)).mp c) (by omega), fun _ => (rdP_iff h1).mpr ⟨_, rfl, aldI_of h3.1 (i32_nn (by omega)) (by rw [i32_n (by omega)]; exact getD_get (by omega)) ⟨_, rfl, ?_, rfl⟩⟩⟩
    have := ag m hm
    unfold vAt
    rw [← em, ← this]
  refine eX5_y ?_
  unfold PX5_y_0
  refine (rdI_iff h1).mpr ⟨_, rfl, fun v2 e2 => (rdI_iff h1).mpr ⟨_, rfl, fun c => ?_, fun c => (rdI_iff h1).mpr ⟨_, rfl, fun v5 e5 => ?_⟩⟩⟩
  · rw [e2, i32_add] at c ⊢
    have hc := (i32_ltn (by omega) (by omega)).mp c
    exact fin _ hc (by rw [if_pos hc])
  · rw [e2, i32_add] at c e5
    have hc := mt (i32_ltn (i := low V + k) (j := V.length) (by omega) (by omega)).mpr c
    rw [e5, i32_sub (by omega) (by omega)]
    exact fin _ (by omega) (by rw [if_neg hc])
/-! add: the stores one behind the other -/
variable {fs : List AV} {post : Option AV → AH → Prop} {x y f v : Int32}
theorem add_195 (H : h[a]? = some (.inr (5, fs))) (hl : fs.length = 8) {n : Int32} (hn : (fs.set 7 (aI v))[2]? = some (aI n)) (k : post none (h.set a (.inr (5, (fs.set 7 (aI v)).set 2 (aI (n + 1)))))) : PX5_add_195 E post h (some a) (some a) v := by
  unfold PX5_add_195
  refine (wr_iff H).mpr ⟨by omega, (rdI_iff (gs H)).mpr ⟨n, hn, (wr_iff (gs H)).mpr ⟨by rw [List.length_set]; omega, ?_⟩⟩⟩
  rw [List.set_set]; exact k
theorem add_171 (H : h[a]? = some (.inr (5, fs))) (hl : fs.length = 8) {t : Int32} (ht : (fs.set 6 (aI v))[7]? = some (aI t)) (k : PX5_add_195 E post (h.set a (.inr (5, fs.set 6 (aI v)))) (some a) (some a) (if f = 0 then (if y ≤ t then t else y) else y)) : PX5_add_171 E post h (some a) y f (some a) v := by
  unfold PX5_add_171
  refine (wr_iff H).mpr ⟨by omega, fun c => ?_, fun c => (rdI_iff (gs H)).mpr ⟨t, ht, fun c2 => (rdI_iff (gs H)).mpr ⟨t, ht, ?_⟩, fun c2 => ?_⟩⟩
  · unfold PX5_add_187; rw [if_neg c] at k; exact k
  · rw [if_pos c, if_pos c2] at k; exact k
  · unfold PX5_add_187; rw [if_pos c, if_neg c2] at k; exact k
theorem add_147 (H : h[a]? = some (.inr (5, fs))) (hl : fs.length = 8) {r : Int32} (hr : (fs.set 5 (aI v))[6]? = some (aI r)) (k : PX5_add_171 E post (h.set a (.inr (5, fs.set 5 (aI v)))) (some a) y f (some a) (if f = 0 then (if x ≤ r then r else x) else x)) : PX5_add_147 E post h (some a) x y f (some a) v := by
  unfold PX5_add_147
  refine (wr_iff H).mpr ⟨by omega, fun c => ?_, fun c => (rdI_iff (gs H)).mpr ⟨r, hr, fun c2 => (rdI_iff (gs H)).mpr ⟨r, hr, ?_⟩, fun c2 => ?_⟩⟩
  · unfold PX5_add_163; rw [if_neg c] at k; exact k
  · rw [if_pos c, if_pos c2] at k; exact k
  · unfold PX5_add_163; rw [if_pos c, if_neg c2] at k; exact k
theorem add_123 (H : h[a]? = some (.inr (5, fs))) (hl : fs.length = 8) {b : Int32} (hr : (fs.set 4 (aI v))[5]? = some (aI b)) (k : PX5_add_147 E post (h.set a (.inr (5, fs.set 4 (aI v)))) (some a) x y f (some a) (if f = 0 then (if b ≤ y then b else y) else y)) : PX5_add_123 E post h (some a) x y f (some a) v := by
  unfold PX5_add_123
  refine (wr_iff H).mpr ⟨by omega, fun c => ?_, fun c => (rdI_iff (gs H)).mpr ⟨b, hr, fun c2 => (rdI_iff (gs H)).mpr ⟨b, hr, ?_⟩, fun c2 => ?_⟩⟩
  · unfold PX5_add_139; rw [if_neg c] at k; exact k
  · rw [if_pos c, if_pos c2] at k; exact k
  · unfold PX5_add_139; rw [if_pos c, if_neg c2] at k; exact k
theorem add_102 (H : h[a]? = some (.inr (5, fs))) {l : Int32} (hr : fs[4]? = some (aI l)) (k : PX5_add_123 E post h (some a) x y f (some a) (if f = 0 then (if l ≤ x then l else x) else x)) : PX5_add_102 E post h (some a) x y f := by
  unfold PX5_add_102
  refine ⟨fun c => ?_, fun c => (rdI_iff H).mpr ⟨l, hr, fun c2 => (rdI_iff H).mpr ⟨l, hr, ?_⟩, fun c2 => ?_⟩⟩
  · unfold PX5_add_115; rw [if_neg c] at k; exact k
  · rw [if_pos c, if_pos c2] at k; exact k
  · unfold PX5_add_115; rw [if_pos c, if_neg c2] at k; exact k
end PO
