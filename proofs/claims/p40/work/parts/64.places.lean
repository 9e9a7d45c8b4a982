/-! the places at which a shape fits -/
abbrev BX : Type := Int32 × Int32 × Int32 × Int32
def obR (a : Nat) : List AV := (List.range 72).map fun j => aP (some (a + 16 + 3 * j))
def PlX (h : AH) (a : Nat) (Os : List (List PT)) (bx : BX) (fx fy : Int32) : Prop :=
  h[a]? = some (.inr (4, [aP (some (a + 1)), aP (some (a + 12)), aP (some (a + 15)), aI (Int32.ofNat Os.length), aI bx.1, aI bx.2.1, aI bx.2.2.1, aI bx.2.2.2, aI fx, aI fy])) ∧ PairAt h (a + 1) ∧ (∃ V, PolyAt h (a + 12) V) ∧ h[a + 15]? = some (.inr (12, obR a)) ∧ Os.length ≤ 72 ∧ (∀ j, j < 72 → ∃ V, PolyAt h (a + 16 + 3 * j) V) ∧ ∀ j, j < Os.length → PolyAt h (a + 16 + 3 * j) (Os.getD j [])
def PlO (h : AH) (a : Nat) (Os : List (List PT)) (bx : BX) : Prop := ∃ fx fy, PlX h a Os bx fx fy
def PlAt (h : AH) (a : Nat) : Prop := ∃ Os bx, PlO h a Os bx
theorem PlX.fr {h h' : AH} {a lo hi : Nat} {Os : List (List PT)} {bx : BX} {fx fy : Int32} (H : PlX h a Os bx fx fy) (r : Fr lo hi h h') (d : a + 232 ≤ lo ∨ hi ≤ a) : PlX h' a Os bx fx fy := by
  obtain ⟨h1, h2, ⟨V, h3⟩, h4, h5, h6, h7⟩ := H
  exact ⟨(r.2 _ (by omega)).trans h1, h2.fr r (by omega), ⟨V, h3.fr r (by omega)⟩, (r.2 _ (by omega)).trans h4, h5, fun j hj => (h6 j hj).imp fun V q => q.fr r (by omega), fun j hj => (h7 j hj).fr r (by omega)⟩
theorem PlO.fr {h h' : AH} {a lo hi : Nat} {Os : List (List PT)} {bx : BX} (H : PlO h a Os bx) (r : Fr lo hi h h') (d : a + 232 ≤ lo ∨ hi ≤ a) : PlO h' a Os bx := by
  obtain ⟨fx, fy, H⟩ := H
  exact ⟨fx, fy, H.fr r d⟩
theorem PlAt.fr {h h' : AH} {a lo hi : Nat} (H : PlAt h a) (r : Fr lo hi h h') (d : a + 232 ≤ lo ∨ hi ≤ a) : PlAt h' a := by
  obtain ⟨Os, bx, H⟩ := H
  exact ⟨Os, bx, H.fr r d⟩
theorem obR_len {a : Nat} : (obR a).length = 72 := by simp [obR]
theorem obR_get {a j : Nat} (hj : j < 72) : (obR a)[j]? = some (aP (some (a + 16 + 3 * j))) := by
  simp [obR, List.getElem?_map, hj]
def freeP (Os : List (List PT)) (bx : BX) (x y : Int32) : Bool := decide (¬ (x < bx.1 ∨ bx.2.2.1 < x ∨ y < bx.2.1 ∨ bx.2.2.2 < y)) && Os.all fun O => decide (locP O x y ≠ 2)
def One (Os : List (List PT)) : Prop := ∀ O, O ∈ Os → O ≠ []
section PL
variable {E : EV} {h : AH} {a : Nat} {Os : List (List PT)} {bx : BX} {fx fy : Int32}
theorem s4_obstacle (H : PlX h a Os bx fx fy) {j : Nat} (hj : j < 72) : sX4_obstacle E [aP (some a), aI (Int32.ofNat j)] h (kP fun r h' => r = some (a + 16 + 3 * j) ∧ h' = h) := by
  obtain ⟨h1, h2, h3, h4, -⟩ := H
  refine eX4_obstacle ?_
  unfold PX4_obstacle_0
  refine ⟨fun c => absurd c (i32_nn (by omega)), fun _ => (rdP_iff h1).mpr ⟨_, rfl, (alenP_iff h4).mpr ?_⟩⟩
  rw [obR_len]
  exact ⟨fun c => absurd ((i32_le (by omega) (by omega)).mp c) (by omega), fun _ => (rdP_iff h1).mpr ⟨_, rfl, aldP_of h4 (i32_nn (by omega)) (by rw [i32_n (by omega)]; exact obR_get hj) ⟨_, rfl, rfl, rfl⟩⟩⟩
theorem all_getD {α : Type} {l : List α} {p : α → Bool} (d : α) (h : ∀ j, j < l.length → p (l.getD j d) = true) : l.all p = true := by
  rw [List.all_eq_true]
  intro x hx
  obtain ⟨j, hj, e⟩ := List.getElem_of_mem hx
  have := h j hj
  rw [List.getD_eq_getElem?_getD, List.getElem?_eq_getElem hj] at this
  rw [← e]; exact this
theorem getD_mem {α : Type} {l : List α} {j : Nat} (d : α) (hj : j < l.length) : l.getD j d ∈ l := by
  rw [List.getD_eq_getElem?_getD, List.getElem?_eq_getElem hj]; exact List.getElem_mem hj
theorem s4_isFree (H : PlX h a Os bx fx fy) (hO : One Os) (x y : Int32) : sX4_isFree E [aP (some a), aI x, aI y] h (kI fun r h' => r = (if freeP Os bx x y = true then 1 else 0) ∧ h' = h) := by
  have h1 := H.1
  have h5 := H.2.2.2.2.1
  have h7 := H.2.2.2.2.2.2
  refine uX4_isFree (fun m h' l0 l1 l2 l3 => ∃ j, m = Os.length - j ∧ j ≤ Os.length ∧ h' = h ∧ l0 = some a ∧ l1 = x ∧ l2 = y ∧ l3 = Int32.ofNat j ∧ (∀ j', j' < j → locP (Os.getD j' []) x y ≠ 2) ∧ ¬ (x < bx.1 ∨ bx.2.2.1 < x ∨ y < bx.2.1 ∨ bx.2.2.2 < y)) ?_ ?_
  · unfold PX4_isFree_0
    have out : (x < bx.1 ∨ bx.2.2.1 < x ∨ y < bx.2.1 ∨ bx.2.2.2 < y) → kI (fun r h' => r = (if freeP Os bx x y = true then 1 else 0) ∧ h' = h) (some (aI 0)) h := fun c => ⟨_, rfl, by unfold freeP; simp [c], rfl⟩
    refine (rdI_iff h1).mpr ⟨_, rfl, fun c => out (Or.inl c), fun c1 => (rdI_iff h1).mpr ⟨_, rfl, fun c => out (Or.inr (Or.inl c)), fun c2 => (rdI_iff h1).mpr ⟨_, rfl, fun c => out (Or.inr (Or.inr (Or.inl c))), fun c3 => (rdI_iff h1).mpr ⟨_, rfl, fun c => ?_, fun c => out (Or.inr (Or.inr (Or.inr (i32_not_le.mp c))))⟩⟩⟩⟩
    exact ⟨_, 0, rfl, Nat.zero_le _, rfl, rfl, rfl, rfl, rfl, fun j' hj' => by omega, fun q => by
      rcases q with q | q | q | q
      · exact c1 q
      · exact c2 q
      · exact c3 q
      · exact absurd c (i32_not_le.mpr q)⟩
  · rintro m h' l0 l1 l2 l3 ⟨j, rfl, hj, rfl, rfl, rfl, rfl, rfl, hall, hbx⟩
    unfold PX4_isFree_36
    refine (rdI_iff h1).mpr ⟨_, rfl, fun c => ?_, fun c => ?_⟩
    · have hjj : j = Os.length := by have := (i32_le (by omega) (by omega)).mp c; omega
      subst hjj
      refine ⟨_, rfl, ?_, rfl⟩
      rw [if_pos]
      unfold freeP
      rw [Bool.and_eq_true]
      exact ⟨decide_eq_true hbx, all_getD [] fun j hj => decide_eq_true (hall j hj)⟩
    · have hjj : j < Os.length := by have := mt (i32_le (i := Os.length) (j := j) (by omega) (by omega)).mpr c; omega
      have Pj := h7 j hjj
      obtain ⟨_, g1⟩ := Pj.ad
      refine cvP h1 (s4_obstacle H (by omega)) ⟨fun q => (by cases q), fun _ => cvI g1 (s5_locate Pj (hO _ (getD_mem [] hjj)) l1 l2) ⟨fun c2 => ?_, fun c2 => ⟨_, rfl, ?_, rfl⟩⟩⟩
      · refine ⟨Os.length - (j + 1), by omega, j + 1, rfl, hjj, rfl, rfl, rfl, rfl, i32_s j, fun j' hj' => ?_, hbx⟩
        by_cases e : j' = j
        · subst e; exact c2
        · exact hall j' (by omega)
      · rw [if_neg]
        intro q
        unfold freeP at q
        rw [Bool.and_eq_true] at q
        have := List.all_eq_true.mp q.2 _ (getD_mem [] hjj)
        exact (of_decide_eq_true this) c2
end PL
/-! the rows of places, counted from the lowest left one -/
def nyB (bx : BX) : Nat := (bx.2.2.2.toInt - bx.2.1.toInt + 1).toNat
def nxB (bx : BX) : Nat := (bx.2.2.1.toInt - bx.1.toInt + 1).toNat
def atB (bx : BX) (k : Nat × Nat) : PT := (bx.1 + Int32.ofNat k.2, bx.2.1 + Int32.ofNat k.1)
def SmB (bx : BX) : Prop := -1000 ≤ bx.1.toInt ∧ bx.1.toInt ≤ 1000 ∧ -1000 ≤ bx.2.1.toInt ∧ bx.2.1.toInt ≤ 1000 ∧ -1000 ≤ bx.2.2.1.toInt ∧ bx.2.2.1.toInt ≤ 1000 ∧ -1000 ≤ bx.2.2.2.toInt ∧ bx.2.2.2.toInt ≤ 1000
theorem i32_addn {x : Int32} {k : Nat} (h1 : -1000 ≤ x.toInt) (h2 : x.toInt ≤ 1000) (h3 : k ≤ 10000) : (x + Int32.ofNat k).toInt = x.toInt + k := by
  rw [Int32.toInt_add, i32_lt (by omega)]; simp only [Int.bmod]; omega
theorem row_lt {l r : Int32} {k : Nat} (h1 : -1000 ≤ l.toInt) (h2 : l.toInt ≤ 1000) (h3 : -1000 ≤ r.toInt) (h4 : r.toInt ≤ 1000) (hk : k ≤ (r.toInt - l.toInt + 1).toNat) : r < l + Int32.ofNat k ↔ k = (r.toInt - l.toInt + 1).toNat := by
  rw [Int32.lt_iff_toInt_lt, i32_addn h1 h2 (by omega)]; omega
theorem i32_sa {x : Int32} {k : Nat} : x + Int32.ofNat k + 1 = x + Int32.ofNat (k + 1) := by rw [Int32.add_assoc, i32_s]
theorem i32_a0 {x : Int32} : x = x + Int32.ofNat 0 := by
  rw [show Int32.ofNat 0 = 0 from rfl, Int32.add_zero]
def frB (Os : List (List PT)) (bx : BX) (k : Nat × Nat) : Bool := freeP Os bx (atB bx k).1 (atB bx k).2
theorem cnt_succ {p : Nat × Nat → Bool} {k i j : Nat} : (pre k i (j + 1)).countP p = (pre k i j).countP p + (if p (i, j) = true then 1 else 0) := by
  rw [pre_succ, List.countP_append, List.countP_cons, List.countP_nil, Nat.zero_add]
def cntP (Os : List (List PT)) (bx : BX) : Nat := (pre (nxB bx) (nyB bx) 0).countP (frB Os bx)
def blP (Os : List (List PT)) (bx : BX) : Option (Nat × Nat) := (pre (nxB bx) (nyB bx) 0).find? (frB Os bx)
section PM
variable {E : EV} {h : AH} {a : Nat} {Os : List (List PT)} {bx : BX} {fx fy : Int32}
theorem s4_count (H : PlX h a Os bx fx fy) (hO : One Os) (hb : SmB bx) : sX4_countFree E [aP (some a)] h (kI fun r h' => r = Int32.ofNat (cntP Os bx) ∧ h' = h) := by
  have h1 := H.1
  obtain ⟨b1, b2, b3, b4, b5, b6, b7, b8⟩ := hb
  have ex : nxB bx = (bx.2.2.1.toInt - bx.1.toInt + 1).toNat := rfl
  have ey : nyB bx = (bx.2.2.2.toInt - bx.2.1.toInt + 1).toNat := rfl
  refine uX4_countFree (fun m h' l0 l1 l2 => ∃ i, m = (nyB bx - i) * 100000 ∧ i ≤ nyB bx ∧ h' = h ∧ l0 = some a ∧ l2 = bx.2.1 + Int32.ofNat i ∧ l1 = Int32.ofNat ((pre (nxB bx) i 0).countP (frB Os bx)))
    (fun m h' l0 l1 l2 l3 => ∃ i j, m = (nyB bx - i) * 100000 - 1 - j ∧ i < nyB bx ∧ j ≤ nxB bx ∧ h' = h ∧ l0 = some a ∧ l2 = bx.2.1 + Int32.ofNat i ∧ l3 = bx.1 + Int32.ofNat j ∧ l1 = Int32.ofNat ((pre (nxB bx) i j).countP (frB Os bx))) ?_ ?_ ?_
  · unfold PX4_countFree_0
    exact (rdI_iff h1).mpr ⟨_, rfl, _, 0, rfl, Nat.zero_le _, rfl, rfl, i32_a0, rfl⟩
  · rintro m h' l0 l1 l2 ⟨i, rfl, hi, rfl, rfl, rfl, rfl⟩
    unfold PX4_countFree_7
    have rl := row_lt (k := i) b3 b4 b7 b8 (by omega)
    refine (rdI_iff h1).mpr ⟨_, rfl, fun c => ?_, fun c => (rdI_iff h1).mpr ⟨_, rfl, ?_⟩⟩
    · have hii := rl.mp c
      rw [← ey] at hii
      subst hii
      exact ⟨_, rfl, rfl, rfl⟩
    · have hii : i < nyB bx := by have := mt rl.mpr c; omega
      exact ⟨_, by omega, i, 0, rfl, hii, Nat.zero_le _, rfl, rfl, rfl, i32_a0, rfl⟩
  · rintro m h' l0 l1 l2 l3 ⟨i, j, rfl, hi, hj, rfl, rfl, rfl, rfl, rfl⟩
    unfold PX4_countFree_20
    have rl := row_lt (k := j) b1 b2 b5 b6 (by omega)
    refine (rdI_iff h1).mpr ⟨_, rfl, fun c => ?_, fun c => ?_⟩
    · have hjj := rl.mp c
      rw [← ex] at hjj
      subst hjj
      exact ⟨(nyB bx - (i + 1)) * 100000, by omega, i + 1, rfl, hi, rfl, rfl, i32_sa, by rw [pre_row]⟩
    · have hjj : j < nxB bx := by have := mt rl.mpr c; omega
      refine cvI h1 (s4_isFree H hO _ _) ⟨fun c2 => ?_, fun c2 => ?_⟩
      · have hf : ¬ freeP Os bx (bx.1 + Int32.ofNat j) (bx.2.1 + Int32.ofNat i) = true := fun q => by rw [if_pos q] at c2; exact absurd c2 (by decide)
        refine ⟨(nyB bx - i) * 100000 - 1 - (j + 1), by omega, i, j + 1, rfl, hi, hjj, rfl, rfl, rfl, i32_sa, ?_⟩
        have hf' : ¬ frB Os bx (i, j) = true := hf
        rw [cnt_succ, if_neg hf', Nat.add_zero]
      · have hf : freeP Os bx (bx.1 + Int32.ofNat j) (bx.2.1 + Int32.ofNat i) = true := Decidable.of_not_not fun q => by rw [if_neg q] at c2; exact c2 rfl
        refine ⟨(nyB bx - i) * 100000 - 1 - (j + 1), by omega, i, j + 1, rfl, hi, hjj, rfl, rfl, rfl, i32_sa, ?_⟩
        have hf' : frB Os bx (i, j) = true := hf
        rw [cnt_succ, if_pos hf', ← i32_s]
theorem find_neg {p : Nat × Nat → Bool} {k i j : Nat} (hn : (pre k i j).find? p = none) (hp : ¬ p (i, j) = true) : (pre k i (j + 1)).find? p = none := by
  rw [pre_succ, List.find?_append, hn, List.find?_cons_of_neg hp]; rfl
theorem pre_pre {k i j n : Nat} (hi : i < n) (hj : j < k) : ∃ r, pre k n 0 = pre k i j ++ (i, j) :: r := by
  have h1 : ∀ d, ∃ r, pre k (i + d) 0 = pre k i 0 ++ r := fun d => by
    induction d with
    | zero => exact ⟨[], by simp⟩
    | succ d ih =>
      obtain ⟨r, e⟩ := ih
      refine ⟨r ++ (List.range k).map fun b => (i + d, b), ?_⟩
      rw [← Nat.add_assoc, ← pre_row, ← List.append_assoc, ← e]
      unfold pre; simp
  have h2 : ∀ d, ∃ r, pre k i (j + d) = pre k i j ++ r := fun d => by
    induction d with
    | zero => exact ⟨[], by simp⟩
    | succ d ih =>
      obtain ⟨r, e⟩ := ih
      exact ⟨r ++ [(i, j + d)], by rw [← Nat.add_assoc, pre_succ, e, List.append_assoc]⟩
  obtain ⟨r2, e2⟩ := h2 (k - j)
  rw [show j + (k - j) = k by omega, pre_row] at e2
  have h3 : ∃ r, pre k (i + 1) 0 = pre k i j ++ (i, j) :: r := by
    have h2' : ∀ d, ∃ r, pre k i (j + 1 + d) = pre k i (j + 1) ++ r := fun d => by
      induction d with
      | zero => exact ⟨[], by simp⟩
      | succ d ih =>
        obtain ⟨r, e⟩ := ih
        exact ⟨r ++ [(i, j + 1 + d)], by rw [← Nat.add_assoc, pre_succ, e, List.append_assoc]⟩
    obtain ⟨r, e⟩ := h2' (k - (j + 1))
    rw [show j + 1 + (k - (j + 1)) = k by omega, pre_row, pre_succ, List.append_assoc] at e
    exact ⟨r, e⟩
  obtain ⟨r3, e3⟩ := h3
  obtain ⟨r4, e4⟩ : ∃ r, pre k n 0 = pre k (i + 1) 0 ++ r := by
    have h1' : ∀ d, ∃ r, pre k (i + 1 + d) 0 = pre k (i + 1) 0 ++ r := fun d => by
      induction d with
      | zero => exact ⟨[], by simp⟩
      | succ d ih =>
        obtain ⟨r, e⟩ := ih
        refine ⟨r ++ (List.range k).map fun b => (i + 1 + d, b), ?_⟩
        rw [← Nat.add_assoc, ← pre_row, ← List.append_assoc, ← e]
        unfold pre; simp
    obtain ⟨r, e⟩ := h1' (n - (i + 1))
    rw [show i + 1 + (n - (i + 1)) = n by omega] at e
    exact ⟨r, e⟩
  exact ⟨r3 ++ r4, by rw [e4, e3]; simp⟩
theorem s4_find (H : PlX h a Os bx fx fy) (hO : One Os) (hb : SmB bx) : sX4_findBottomLeft E [aP (some a)] h (kI fun r h' => (blP Os bx = none → r = 0 ∧ h' = h) ∧ (∀ k, blP Os bx = some k → r = 1 ∧ PlX h' a Os bx (atB bx k).1 (atB bx k).2 ∧ Fr a (a + 1) h h')) := by
  have h1 := H.1
  obtain ⟨b1, b2, b3, b4, b5, b6, b7, b8⟩ := hb
  have ex : nxB bx = (bx.2.2.1.toInt - bx.1.toInt + 1).toNat := rfl
  have ey : nyB bx = (bx.2.2.2.toInt - bx.2.1.toInt + 1).toNat := rfl
  refine uX4_findBottomLeft (fun m h' l0 l1 => ∃ i, m = (nyB bx - i) * 100000 ∧ i ≤ nyB bx ∧ h' = h ∧ l0 = some a ∧ l1 = bx.2.1 + Int32.ofNat i ∧ (pre (nxB bx) i 0).find? (frB Os bx) = none)
    (fun m h' l0 l1 l2 => ∃ i j, m = (nyB bx - i) * 100000 - 1 - j ∧ i < nyB bx ∧ j ≤ nxB bx ∧ h' = h ∧ l0 = some a ∧ l1 = bx.2.1 + Int32.ofNat i ∧ l2 = bx.1 + Int32.ofNat j ∧ (pre (nxB bx) i j).find? (frB Os bx) = none) ?_ ?_ ?_
  · unfold PX4_findBottomLeft_0
    exact (rdI_iff h1).mpr ⟨_, rfl, _, 0, rfl, Nat.zero_le _, rfl, rfl, i32_a0, rfl⟩
  · rintro m h' l0 l1 ⟨i, rfl, hi, rfl, rfl, rfl, hn⟩
    unfold PX4_findBottomLeft_5
    have rl := row_lt (k := i) b3 b4 b7 b8 (by omega)
    refine (rdI_iff h1).mpr ⟨_, rfl, fun c => ?_, fun c => (rdI_iff h1).mpr ⟨_, rfl, ?_⟩⟩
    · have hii := rl.mp c
      rw [← ey] at hii
      subst hii
      exact ⟨_, rfl, fun _ => ⟨rfl, rfl⟩, fun k hk => by unfold blP at hk; rw [hn] at hk; cases hk⟩
    · have hii : i < nyB bx := by have := mt rl.mpr c; omega
      exact ⟨_, by omega, i, 0, rfl, hii, Nat.zero_le _, rfl, rfl, rfl, i32_a0, hn⟩
  · rintro m h' l0 l1 l2 ⟨i, j, rfl, hi, hj, rfl, rfl, rfl, rfl, hn⟩
    unfold PX4_findBottomLeft_18
    have rl := row_lt (k := j) b1 b2 b5 b6 (by omega)
    refine (rdI_iff h1).mpr ⟨_, rfl, fun c => ?_, fun c => ?_⟩
    · have hjj := rl.mp c
      rw [← ex] at hjj
      subst hjj
      exact ⟨(nyB bx - (i + 1)) * 100000, by omega, i + 1, rfl, hi, rfl, rfl, i32_sa, by rw [← pre_row]; exact hn⟩
    · have hjj : j < nxB bx := by have := mt rl.mpr c; omega
      refine cvI h1 (s4_isFree H hO _ _) ⟨fun c2 => ?_, fun c2 => ?_⟩
      · have hf : ¬ freeP Os bx (bx.1 + Int32.ofNat j) (bx.2.1 + Int32.ofNat i) = true := fun q => by rw [if_pos q] at c2; exact absurd c2 (by decide)
        exact ⟨(nyB bx - i) * 100000 - 1 - (j + 1), by omega, i, j + 1, rfl, hi, hjj, rfl, rfl, rfl, i32_sa, find_neg hn hf⟩
      · have hf : freeP Os bx (bx.1 + Int32.ofNat j) (bx.2.1 + Int32.ofNat i) = true := Decidable.of_not_not fun q => by rw [if_neg q] at c2; exact c2 rfl
        obtain ⟨r, er⟩ := pre_pre (k := nxB bx) hi hjj
        have hfind : blP Os bx = some (i, j) := by
          unfold blP
          rw [er, List.find?_append, hn, List.find?_cons_of_pos (p := frB Os bx) (a := (i, j)) hf]; rfl
        refine (wr_iff h1).mpr ⟨Nat.le_of_ble_eq_true rfl, (wr_iff (gs h1)).mpr ⟨Nat.le_of_ble_eq_true rfl, _, rfl, fun q => ?_, fun k hk => ?_⟩⟩
        · rw [hfind] at q; cases q
        · rw [hfind] at hk
          cases hk
          have f2 : Fr a (a + 1) h' (List.set (h'.set a (.inr (4, List.set [aP (some (a + 1)), aP (some (a + 12)), aP (some (a + 15)), aI (Int32.ofNat Os.length), aI bx.1, aI bx.2.1, aI bx.2.2.1, aI bx.2.2.2, aI fx, aI fy] 8 (aI (bx.1 + Int32.ofNat j))))) a (.inr (4, List.set (List.set [aP (some (a + 1)), aP (some (a + 12)), aP (some (a + 15)), aI (Int32.ofNat Os.length), aI bx.1, aI bx.2.1, aI bx.2.2.1, aI bx.2.2.2, aI fx, aI fy] 8 (aI (bx.1 + Int32.ofNat j))) 9 (aI (bx.2.1 + Int32.ofNat i))))) := (Fr.set (Nat.le_refl a) (by omega)).trans (Fr.set (Nat.le_refl a) (by omega))
          obtain ⟨-, h2, ⟨V, h3⟩, h4, h5, h6, h7⟩ := H
          exact ⟨rfl, ⟨gs (gs h1), h2.fr f2 (by omega), ⟨V, h3.fr f2 (by omega)⟩, (f2.2 _ (by omega)).trans h4, h5, fun j hj => (h6 j hj).imp fun V q => q.fr f2 (by omega), fun j hj => (h7 j hj).fr f2 (by omega)⟩, f2⟩
end PM
