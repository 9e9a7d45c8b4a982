/-! what a call does: it answers 0 or more and saves the state, or less and changes nothing; no two items overlap afterwards -/
def Dn (ρ : RV) (ps : List RV) (t : Int32 × RV × List RV) : Prop := ((¬ t.1 < 0 ∧ t.2.2 = pushR ps ρ) ∨ (t.1 < 0 ∧ t.2 = (ρ, ps))) ∧ NH t.2.1
section DN
variable {M : Nat → SH} {σ : SV} {ρ : RV} {vs : List SV} {ps : List RV}
theorem Dn.no (N : NH ρ) {r : Int32} (h : r < 0) : Dn ρ ps (r, ρ, ps) := ⟨Or.inr ⟨h, rfl⟩, N⟩
theorem Dn.yes {k : Nat} (hk : k < 2147483648) {ρ' : RV} (N : NH ρ') : Dn ρ ps (Int32.ofNat k, ρ', pushR ps ρ) := ⟨Or.inl ⟨i32_nn hk, rfl⟩, N⟩
theorem below {r : Int32} (h : ¬ 0 ≤ r) : r < 0 := by
  rw [Int32.lt_iff_toInt_lt]
  rw [Int32.le_iff_toInt_le] at h
  omega
theorem err_neg {p : Nat} (h : p ≤ 150) : -10 - Int32.ofNat p < 0 := by
  have z : (-10 : Int32).toInt = -10 := by decide
  have z0 : (0 : Int32).toInt = 0 := by decide
  rw [Int32.lt_iff_toInt_lt, Int32.toInt_sub, i32_lt (by omega), z, z0]
  simp only [Int.bmod]; omega
theorem d_clear (H : StR M σ ρ) (N : NH ρ) (x : Int32) : Dn ρ ps (rClear ρ ps x) := by
  unfold rClear
  by_cases c : Slt x
  · rw [ifC_pos c]
    by_cases d : slR ρ x = []
    · rw [ifC_pos d]; exact Dn.no N (by decide)
    · rw [ifC_neg d]; exact Dn.yes (by have := (H.sl c).2; omega) (N.items rfl)
  · rw [ifC_neg c]; exact Dn.no N (by decide)
theorem d_copy (H : StR M σ ρ) (N : NH ρ) (x y t : Int32) : Dn ρ ps (rCopy ρ ps x y t) := by
  unfold rCopy
  by_cases c : Slt x ∧ Slt y ∧ inP t 0 3
  · rw [ifC_pos c]
    by_cases d : slR ρ x = []
    · rw [ifC_pos d]; exact Dn.no N (by decide)
    · rw [ifC_neg d]; exact Dn.yes (by have := (H.sl c.1).2; omega) (N.items rfl)
  · rw [ifC_neg c]; exact Dn.no N (by decide)
theorem d_load (N : NH ρ) (cs : List Int32) (x : Int32) (hp : Slt x → (rwGo cs 3 0 []).1 = true ∨ (rwGo cs 3 0 []).2.1 ≤ 150) : Dn ρ ps ((rLoad cs ρ ps x).1, (rLoad cs ρ ps x).2.2) := by
  unfold rLoad
  by_cases c : Slt x
  · rw [ifC_pos c]
    by_cases d : (rwGo cs 3 0 []).1 = true
    · rw [if_pos d]
      have o := (rwGo_ok (cs := cs) (t := 3) (p := 0) (S := []) fun V hV => absurd hV List.not_mem_nil).2
      rw [List.length_nil, Nat.zero_add] at o
      exact Dn.yes (by omega) (N.items rfl)
    · rw [if_neg d]
      rcases hp c with hp | hp
      · exact absurd hp d
      · exact Dn.no N (err_neg hp)
  · rw [ifC_neg c]; exact Dn.no N (show (-1000001 : Int32) < 0 by decide)
theorem d_cont (H : StR M σ ρ) (N : NH ρ) (w hh : Int32) : Dn ρ ps (rCont ρ ps w hh) := by
  have n := H.n
  unfold rCont
  by_cases c : inP w 1 40 ∧ inP hh 1 40
  · rw [ifC_pos c]; exact Dn.yes (by omega) (NH.none rfl)
  · rw [ifC_neg c]; exact Dn.no N (by decide)
theorem d_remove (H : StR M σ ρ) (N : NH ρ) (i : Int32) : Dn ρ ps (rRemove ρ ps i) := by
  have n := H.n
  unfold rRemove
  by_cases c : RItm ρ i
  · rw [ifC_pos c]
    have hi := Itm.lt H ((H.itm i).mpr c)
    exact Dn.yes (by omega) (nh_del N (by rw [← n.1]; exact hi))
  · rw [ifC_neg c]; exact Dn.no N (by decide)
theorem d_place (H : StR M σ ρ) (N : NH ρ) (x u v : Int32) : Dn ρ ps (rPlace ρ ps x u v) := by
  have n := H.n
  unfold rPlace
  by_cases c : Slt x ∧ Nea u ∧ Nea v
  · rw [ifC_pos c]
    by_cases d : slR ρ x = []
    · rw [ifC_pos d]; exact Dn.no N (by decide)
    · rw [ifC_neg (p := slR ρ x = []) d]
      by_cases f : rFit ρ (slR ρ x) u v (-1000009) = true
      · rw [if_pos f]
        by_cases g : ρ.2.1.length = 8
        · rw [if_pos g]; exact Dn.no N (by decide)
        · rw [if_neg g]
          have s := (H.sl c.1).1
          have hv := (con_iff (c := ρ.2.2.2.2) s (fun q => d (s.nil.mp q)) (near_bd c.2.1 c.2.2).2.2 H.2.2.1.2).2 (fit_con f)
          exact Dn.yes (by omega) (nh_add H N s.rp (v := (u, v)) hv f)
      · rw [if_neg f]; exact Dn.no N (by decide)
  · rw [ifC_neg c]; exact Dn.no N (by decide)
theorem d_placeBL (H : StR M σ ρ) (N : NH ρ) (x : Int32) : Dn ρ ps (rPlaceBL ρ ps x) := by
  have n := H.n
  obtain ⟨-, z, ok⟩ := err_eq H x
  unfold rPlaceBL
  by_cases c : 0 ≤ rErr ρ x
  · rw [if_pos c]
    obtain ⟨o1, o2, o3⟩ := ok (z.mpr c)
    have s := (H.sl o1).1
    cases f : rFind ρ (slR ρ x) with
    | none => exact Dn.no N (by decide)
    | some q => exact Dn.yes (by omega) (nh_add H N s.rp (find_np H s o2 f) (find_ok f).1)
  · rw [if_neg c]; exact Dn.no N (below c)
theorem d_placeT (H : StR M σ ρ) (N : NH ρ) (x : Int32) : Dn ρ ps (rPlaceT ρ ps x) := by
  have n := H.n
  obtain ⟨-, z, ok⟩ := err_eq H x
  unfold rPlaceT
  by_cases c : 0 ≤ rErr ρ x
  · rw [if_pos c]
    obtain ⟨o1, o2, o3⟩ := ok (z.mpr c)
    have s := (H.sl o1).1
    rcases bt_inv H s o2 4 (Nat.le_refl _) with ⟨-, i2, -⟩ | ⟨j, j1, -, j3, -, q, q1, q2⟩
    · rw [i2, if_pos rfl]; exact Dn.no N (by decide)
    · rw [j3, q2, if_neg (nat_ne (by omega)), show nx (Int32.ofNat j) = j from i32_n (by omega)]
      exact Dn.yes (by omega) (nh_add H N (s.qtNr j).rp (find_np H (s.qtNr j) (qtN_ne o2 j) q1) (find_ok q1).1)
  · rw [if_neg c]; exact Dn.no N (below c)
theorem d_clr (H : StR M σ ρ) (N : NH ρ) (r : Int32) : Dn ρ ps (rClr ρ ps r) := by
  unfold rClr
  by_cases c : inP r 0 5
  · rw [ifC_pos c]
    by_cases d : rClrB ρ r = true
    · rw [if_pos d]
      refine ⟨Or.inl ⟨?_, rfl⟩, N.items rfl⟩
      have w := H.2.2.1.2.2.1
      have z0 : (0 : Int32).toInt = 0 := by decide
      show ¬ ρ.2.2.2.2 < 0
      rw [Int32.lt_iff_toInt_lt, z0]; omega
    · rw [if_neg d]; exact Dn.no N (by decide)
  · rw [ifC_neg c]; exact Dn.no N (by decide)
theorem d_slide (H : StR M σ ρ) (N : NH ρ) (i d : Int32) : Dn ρ ps (rSlideI ρ ps i d (slN ρ (nx i) d)) := by
  have n8 := H.n
  unfold rSlideI
  by_cases c : RItm ρ i ∧ inP d 0 7
  · rw [ifC_pos c]
    have hk := Itm.lt H ((H.itm i).mpr c.1)
    obtain ⟨n, h1, h2, h3, h4⟩ := mv_eq H hk ((dirn_in d).mpr c.2)
    rw [slN_eq h2]
    by_cases f : rFitT ρ (nx i) d 1 = true
    · rw [if_pos f]
      have n0 : n ≠ 0 := fun q => by
        subst q
        have := h2.2.2
        rw [show (0 : Nat) + 1 = 1 from rfl, f] at this
        exact absurd this (by decide)
      obtain ⟨m, rfl⟩ : ∃ m, n = m + 1 := ⟨n - 1, by omega⟩
      exact Dn.yes (by omega) (nh_set H N (by rw [← n8.1]; exact hk) h4 (h2.2.1 m (by omega)))
    · rw [if_neg f]; exact Dn.no N (by decide)
  · rw [ifC_neg c]; exact Dn.no N (by decide)
theorem d_compact (H : StR M σ ρ) (N : NH ρ) : Dn ρ ps (rCompact ρ ps 100000) := by
  have pb := gd_cmp.2.2.2 ρ ⟨M, σ, H⟩
  obtain ⟨-, -, -, d⟩ := cm_go (M := M) (potL ρ) σ ρ 0 0 999999 100000 1 H (Nat.le_refl _) (by omega) pb (by decide) rfl
  unfold rCompact
  by_cases c : rCan ρ = true
  · rw [if_pos c]; exact Dn.yes (by omega) (nh_go 100000 ρ 0 σ H N)
  · rw [if_neg c]; exact Dn.no N (by decide)
theorem cur_nil (p : Nat) : cur [] p = -1 := if_neg (Nat.not_lt_zero _)
theorem ly_nil : (lyR []).1 = true ∧ (lyR []).2.2 = [] := by
  have e : lyR [] = lyEnd [] (skp [] 0) [] := by
    show lyGo [] (149 + 1) 0 [] = _
    rw [lyGo_succ, if_pos (cur_nil _)]
  rw [e]
  unfold lyEnd
  exact ⟨decide_eq_true (cur_nil (skp [] (skp [] 0))), rfl⟩
theorem d_lay : rLay [] ρ ps = (Int32.ofNat 0, [], (ρ.1, [], ρ.2.2), pushR ps ρ) := by
  unfold rLay
  rw [if_pos ly_nil.1, ly_nil.2]
  rfl
theorem push_last : (pushR ps ρ).getD ((pushR ps ρ).length - 1) dV = ρ ∧ pushR ps ρ ≠ [] := by
  have key : ∀ l : List RV, (l ++ [ρ]).getD ((l ++ [ρ]).length - 1) dV = ρ ∧ l ++ [ρ] ≠ [] := fun l => by
    refine ⟨?_, by simp⟩
    rw [List.length_append, List.length_singleton, Nat.add_sub_cancel, List.getD_eq_getElem?_getD, List.getElem?_append_right (Nat.le_refl _), Nat.sub_self]; rfl
  unfold pushR
  split
  · exact key ps
  · exact key ps.tail
theorem push_len (h : ps.length ≤ 6) : (pushR ps ρ).length = (if ps.length < 6 then ps.length + 1 else 6) := by
  unfold pushR
  split
  · rw [List.length_append]; rfl
  · rw [List.length_append, List.length_tail]
    show ps.length - 1 + 1 = 6
    omega
theorem d_undo {ρ' : RV} : rUndo ρ' (pushR ps ρ) = (Int32.ofNat ((pushR ps ρ).length - 1), ρ, (pushR ps ρ).dropLast) := by
  unfold rUndo
  rw [ifC_neg (p := pushR ps ρ = []) push_last.2, push_last.1]
def NHs (ps : List RV) : Prop := ∀ r, r ∈ ps → NH r
theorem NHs.push (H : NHs ps) (N : NH ρ) : NHs (pushR ps ρ) := fun r hr => by
  unfold pushR at hr
  split at hr
  · rcases List.mem_append.mp hr with h | h
    · exact H r h
    · rw [List.mem_singleton.mp h]; exact N
  · rcases List.mem_append.mp hr with h | h
    · exact H r (List.mem_of_mem_tail h)
    · rw [List.mem_singleton.mp h]; exact N
theorem NHs.pop (H : NHs ps) : NHs ps.dropLast := fun r hr => H r ((List.dropLast_sublist ps).subset hr)
end DN
