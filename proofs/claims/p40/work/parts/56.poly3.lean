/-! polygons: convexity, area, place of a point, squares, sums -/
def convexP (V : List PT) : Prop := (∀ e, e < V.length → ∀ k, k < V.length → k ≠ e → k ≠ (if e + 1 < V.length then e + 1 else 0) → 0 < sideP V e (vAt V k).1 (vAt V k).2) ∧ 3 ≤ V.length
def areaP (V : List PT) : Int32 := (List.range V.length).foldl (fun s k => s + ((vAt V k).1 * (vAt V (k + 1)).2 - (vAt V (k + 1)).1 * (vAt V k).2)) 0
def locP (V : List PT) (x y : Int32) : Int32 := if x < (pfold V).2.2.2.1 ∨ (pfold V).2.2.2.2.2.1 < x ∨ y < (pfold V).2.2.2.2.1 ∨ (pfold V).2.2.2.2.2.2 < y then 0 else if (List.range V.length).any (fun e => decide (sideP V e x y < 0)) = true then 0 else if (List.range V.length).any (fun e => decide (sideP V e x y = 0)) = true then 1 else 2
def sqP (x y r : Int32) : List PT := if r ≤ 0 then [(x - r, y - r)] else [(x - r, y - r), (x + r, y - r), (x + r, y + r), (x - r, y + r)]
def turnP (A B : List PT) (i j : Nat) : Int32 := if i < A.length then (if j < B.length then ((vAt A (i + 1)).1 - (vAt A i).1) * ((vAt B (j + 1)).2 - (vAt B j).2) - ((vAt A (i + 1)).2 - (vAt A i).2) * ((vAt B (j + 1)).1 - (vAt B j).1) else 1) else -1
def sumGo (A B : List PT) : Nat → Nat → Nat → List PT
  | 0, _, _ => []
  | t + 1, i, j => if i < A.length ∨ j < B.length then ((vAt A i).1 + (vAt B j).1, (vAt A i).2 + (vAt B j).2) :: sumGo A B t (if turnP A B i j < 0 then i else i + 1) (if 0 < turnP A B i j then j else j + 1) else []
def sumP (A B : List PT) : List PT := sumGo A B (A.length + B.length) 0 0
theorem sumGo_len {A B : List PT} : ∀ t i j, (sumGo A B t i j).length ≤ t := by
  intro t
  induction t with
  | zero => intro i j; simp [sumGo]
  | succ t ih =>
    intro i j
    unfold sumGo
    split
    · simp only [List.length_cons]; have := ih (if turnP A B i j < 0 then i else i + 1) (if 0 < turnP A B i j then j else j + 1); omega
    · simp
section PQ
variable {E : EV} {h : AH} {a p q : Nat} {V A B W : List PT}
theorem s5_isConvex (H : PolyAt h a V) : sX5_isConvex E [aP (some a)] h (kI fun r h' => (convexP V → r = 1) ∧ (¬ convexP V → r = 0) ∧ h' = h) := by
  obtain ⟨lw, l, b, r, t, xs, ys, h1, -, -, h4, -⟩ := id H
  refine eX5_isConvex (J2 := fun h' l0 l1 => ∃ z e, z = V.length - e ∧ e ≤ V.length ∧ h' = h ∧ l0 = some a ∧ l1 = Int32.ofNat e ∧ (∀ e', e' < e → ∀ k, k < V.length → k ≠ e' → k ≠ (if e' + 1 < V.length then e' + 1 else 0) → 0 < sideP V e' (vAt V k).1 (vAt V k).2)) (fun X C D h' l0 l1 ⟨z, hz⟩ => ?_) ⟨V.length, 0, rfl, Nat.zero_le _, rfl, rfl, rfl, fun e' he' => by omega⟩
  refine lsX5_isConvex_2 (fun z h' l0 l1 => ∃ e, z = V.length - e ∧ e ≤ V.length ∧ h' = h ∧ l0 = some a ∧ l1 = Int32.ofNat e ∧ (∀ e', e' < e → ∀ k, k < V.length → k ≠ e' → k ≠ (if e' + 1 < V.length then e' + 1 else 0) → 0 < sideP V e' (vAt V k).1 (vAt V k).2)) (fun z ih h' l0 l1 hI => ?_) z h' l0 l1 hz
  refine bX5_isConvex_2 C D (J30 := fun h' l0 l1 l2 l3 => ∃ zz e k, zz = V.length - k ∧ z = V.length - e ∧ k ≤ V.length ∧ e < V.length ∧ h' = h ∧ l0 = some a ∧ l1 = Int32.ofNat e ∧ l2 = Int32.ofNat (if e + 1 < V.length then e + 1 else 0) ∧ l3 = Int32.ofNat k ∧ (∀ k', k' < k → k' ≠ e → k' ≠ (if e + 1 < V.length then e + 1 else 0) → 0 < sideP V e (vAt V k').1 (vAt V k').2) ∧ (∀ e', e' < e → ∀ k, k < V.length → k ≠ e' → k ≠ (if e' + 1 < V.length then e' + 1 else 0) → 0 < sideP V e' (vAt V k).1 (vAt V k).2)) (fun h' l0 l1 l2 l3 ⟨zz, hz⟩ => ?_) ?_
  · refine lpX5_isConvex_30 C D (J2 := fun h' l0 l1 => ∃ z2, z2 < z ∧ ∃ e, z2 = V.length - e ∧ e ≤ V.length ∧ h' = h ∧ l0 = some a ∧ l1 = Int32.ofNat e ∧ (∀ e', e' < e → ∀ k, k < V.length → k ≠ e' → k ≠ (if e' + 1 < V.length then e' + 1 else 0) → 0 < sideP V e' (vAt V k).1 (vAt V k).2)) (fun h' l0 l1 ⟨z2, hz2, hI2⟩ => ih z2 hz2 h' l0 l1 hI2) (fun zz h' l0 l1 l2 l3 => ∃ e k, zz = V.length - k ∧ z = V.length - e ∧ k ≤ V.length ∧ e < V.length ∧ h' = h ∧ l0 = some a ∧ l1 = Int32.ofNat e ∧ l2 = Int32.ofNat (if e + 1 < V.length then e + 1 else 0) ∧ l3 = Int32.ofNat k ∧ (∀ k', k' < k → k' ≠ e → k' ≠ (if e + 1 < V.length then e + 1 else 0) → 0 < sideP V e (vAt V k').1 (vAt V k').2) ∧ (∀ e', e' < e → ∀ k, k < V.length → k ≠ e' → k ≠ (if e' + 1 < V.length then e' + 1 else 0) → 0 < sideP V e' (vAt V k).1 (vAt V k).2)) (fun zz h' l0 l1 l2 l3 hI3 => ?_) zz h' l0 l1 l2 l3 hz
    obtain ⟨e, k, rfl, rfl, hk, he, rfl, rfl, rfl, rfl, rfl, hin, hall⟩ := hI3
    have hnx : (if e + 1 < V.length then e + 1 else 0) < V.length := by split <;> omega
    generalize hnn : (if e + 1 < V.length then e + 1 else 0) = nx at *
    have hne : V ≠ [] := fun q => by rw [q] at he; simp at he
    unfold PX5_isConvex_30
    refine (rdI_iff h1).mpr ⟨_, rfl, fun c => ?_, fun c => ?_⟩
    · have hkk : k = V.length := by have := (i32_le (by omega) (by omega)).mp c; omega
      refine ⟨V.length - (e + 1), by omega, e + 1, rfl, by omega, rfl, rfl, i32_s e, fun e' he' k' hk' hk1 hk2 => ?_⟩
      by_cases c2 : e' = e
      · subst c2; rw [hnn] at hk2; exact hin k' (by omega) hk1 hk2
      · exact hall e' (by omega) k' hk' hk1 hk2
    · have hkk : k < V.length := by have := mt (i32_le (i := V.length) (j := k) (by omega) (by omega)).mpr c; omega
      have go : (k ≠ e → k ≠ nx → 0 < sideP V e (vAt V k).1 (vAt V k).2) → ∃ zz', zz' < V.length - k ∧ ∃ e1 k1, zz' = V.length - k1 ∧ V.length - e = V.length - e1 ∧ k1 ≤ V.length ∧ e1 < V.length ∧ h' = h' ∧ some a = some a ∧ Int32.ofNat e = Int32.ofNat e1 ∧ Int32.ofNat nx = Int32.ofNat (if e1 + 1 < V.length then e1 + 1 else 0) ∧ Int32.ofNat k + 1 = Int32.ofNat k1 ∧ (∀ k', k' < k1 → k' ≠ e1 → k' ≠ (if e1 + 1 < V.length then e1 + 1 else 0) → 0 < sideP V e1 (vAt V k').1 (vAt V k').2) ∧ (∀ e', e' < e1 → ∀ k, k < V.length → k ≠ e' → k ≠ (if e' + 1 < V.length then e' + 1 else 0) → 0 < sideP V e' (vAt V k).1 (vAt V k).2) := fun hpos => by
        refine ⟨V.length - (k + 1), by omega, e, k + 1, rfl, rfl, by omega, he, rfl, rfl, rfl, by rw [hnn], i32_s k, fun k' hk' hk1 hk2 => ?_, hall⟩
        rw [hnn] at hk2
        by_cases c2 : k' = k
        · subst c2; exact hpos hk1 hk2
        · exact hin k' (by omega) hk1 hk2
      have inj : ∀ m n, m < 100 → n < 100 → Int32.ofNat m = Int32.ofNat n → m = n := fun m n hm hn q => by
        have := congrArg Int32.toInt q
        rw [i32_lt (by omega), i32_lt (by omega)] at this; omega
      refine ⟨fun c2 => go fun q => absurd (inj _ _ (by omega) (by omega) c2) q, fun c2 => ⟨fun c3 => go fun _ q => absurd (inj _ _ (by omega) (by omega) c3) q, fun c3 => ?_⟩⟩
      refine cvI h1 (s5_x H hne (by omega)) (cvI h1 (s5_y H hne (by omega)) (cvI h1 (s5_side H he _ _) ⟨fun c4 => go fun _ _ => c4, fun c4 => ⟨_, rfl, fun cv => ?_, fun _ => rfl, rfl⟩⟩))
      exact absurd (cv.1 e he k hkk (fun q => c2 (by rw [q])) (by rw [hnn]; exact fun q => c3 (by rw [q]))) c4
  · obtain ⟨e, hze, he, rfl, rfl, rfl, hall⟩ := hI
    unfold PX5_isConvex_2
    refine (rdI_iff h1).mpr ⟨_, rfl, fun c => ?_, fun c => ?_⟩
    · have hee : e = V.length := by have := (i32_le (by omega) (by omega)).mp c; omega
      refine (rdI_iff h1).mpr ⟨_, rfl, fun c2 => ⟨_, rfl, fun cv => ?_, fun _ => rfl, rfl⟩, fun c2 => ⟨_, rfl, fun _ => rfl, fun cv => ?_, rfl⟩⟩
      · have := (i32_ltn (i := V.length) (j := 3) (by omega) (by omega)).mp c2
        exact absurd cv.2 (by omega)
      · have := mt (i32_ltn (i := V.length) (j := 3) (by omega) (by omega)).mpr c2
        exact absurd ⟨fun e' he' => hall e' (by omega), by omega⟩ cv
    · have hee : e < V.length := by have := mt (i32_le (i := V.length) (j := e) (by omega) (by omega)).mpr c; omega
      rw [i32_s]
      refine (rdI_iff h1).mpr ⟨_, rfl, fun c2 => ?_, fun c2 => ?_⟩
      · have := (i32_le (by omega) (by omega)).mp c2
        unfold PX5_isConvex_27
        exact ⟨V.length, e, 0, rfl, hze, Nat.zero_le _, hee, rfl, rfl, rfl, by rw [if_neg (by omega)]; rfl, rfl, fun k' hk' => by omega, hall⟩
      · have := mt (i32_le (i := V.length) (j := e + 1) (by omega) (by omega)).mpr c2
        unfold PX5_isConvex_27
        exact ⟨V.length, e, 0, rfl, hze, Nat.zero_le _, hee, rfl, rfl, rfl, by rw [if_pos (by omega)], rfl, fun k' hk' => by omega, hall⟩
end PQ
