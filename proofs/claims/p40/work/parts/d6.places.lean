/-! loading, copying, placing go on alike -/
section PL
variable {M : Nat → SH} {σ : SV} {ρ : RV} {vs : List SV} {ps : List RV}
def Ful5 (c : C5) (r : Int32 × List Int32 × RV × List RV) : Prop := c.1 = r.1 ∧ c.2.1 = r.2.1 ∧ Ful c.2.2.2.2 c.2.2.1 c.2.2.2.1 r.2.2.1 r.2.2.2
theorem Ful.st (H : Ful M σ vs ρ ps) : StR M σ ρ := H.1
theorem q_load (H : Ful M σ vs ρ ps) {b : Nat} (hb : ∀ a, Liv σ vs a → a ≠ b) (cs : List Int32) (x : Int32) : Ful5 (cLoad cs σ vs M b x) (rLoad cs ρ ps x) := by
  have e := shGo_rw (cs := cs) (t := 3) (p := 0) (S := [])
  rw [List.map_nil] at e
  unfold cLoad rLoad
  by_cases c : Slt x
  · rw [ifC_pos c, ifC_pos c, e]
    dsimp only
    by_cases d : (rwGo cs 3 0 []).1 = true
    · rw [if_pos d, if_pos d]
      obtain ⟨o1, o2⟩ := rwGo_ok (cs := cs) (t := 3) (p := 0) (S := []) fun V hV => absurd hV List.not_mem_nil
      have U := H.upd (S := (rwGo cs 3 0 []).2.2.map rotP) hb
      refine ⟨by rw [List.length_map], rfl, U.push (U.1.slot c.lt ?_)⟩
      rw [updM_self]
      rw [List.length_nil, Nat.zero_add] at o2
      exact ⟨sr_rot o1, o2⟩
    · rw [if_neg d, if_neg d]; exact ⟨rfl, rfl, H⟩
  · rw [ifC_neg c, ifC_neg c]; exact ⟨rfl, rfl, H⟩
theorem q_copy (H : Ful M σ vs ρ ps) {b : Nat} (hb : ∀ a, Liv σ vs a → a ≠ b) (cs : List Int32) (x y t : Int32) : Ful5 (cCopy cs σ vs M b x y t) ((rCopy ρ ps x y t).1, cs, (rCopy ρ ps x y t).2) := by
  have iff : (Slt x ∧ Slt y ∧ ¬ t < 0 ∧ t < 4) ↔ (Slt x ∧ Slt y ∧ inP t 0 3) := by
    have q : t < 4 ↔ ¬ (3 : Int32) < t := by
      rw [Int32.lt_iff_toInt_lt, Int32.lt_iff_toInt_lt]
      have z1 : (4 : Int32).toInt = 4 := by decide
      have z2 : (3 : Int32).toInt = 3 := by decide
      omega
    unfold inP
    rw [q]
  unfold cCopy rCopy
  by_cases c : Slt x ∧ Slt y ∧ ¬ t < 0 ∧ t < 4
  · rw [ifC_pos c, ifC_pos (iff.mp c)]
    have s := H.1.sl c.1
    by_cases e : slM M σ (nx x) = []
    · rw [ifC_pos e, ifC_pos (s.1.nil.mp e)]; exact ⟨rfl, rfl, H⟩
    · rw [ifC_neg e, ifC_neg fun q => e (s.1.nil.mpr q)]
      have U := H.upd (S := tnS t (slM M σ (nx x))) hb
      obtain ⟨et, lt⟩ := nat_of (n := 4) c.2.2.1 (i32_not_le.mpr c.2.2.2) (by omega)
      have lt : nx t < 4 := lt
      refine ⟨by dsimp only; rw [s.1.1], rfl, U.push (U.1.slot c.2.1.lt ?_)⟩
      rw [updM_self]
      have et : tnS t (slM M σ (nx x)) = qtN (nx t) (slM M σ (nx x)) := by
        rw [← tnS_qt lt]; congr 1
      rw [et, qtN_len]
      exact ⟨s.1.qtNr _, s.2⟩
  · rw [ifC_neg c, ifC_neg fun q => c (iff.mpr q)]; exact ⟨rfl, rfl, H⟩
theorem StR.fitS (H : StR M σ ρ) {S S' : SH} (HS : SR S S') (ne : S ≠ []) {x y : Int32} (hp : Nr (x, y)) : fitS M σ S x y = rFit ρ S' x y (-1000009) := by
  obtain ⟨e, wq⟩ := H.2.2.1
  have e1 : σ.2.2.1 = ρ.2.2.1 := congrArg Prod.fst e
  have e2 : σ.2.2.2.1 = ρ.2.2.2.1 := congrArg (fun q => q.2.1) e
  have e3 : σ.2.2.2.2 = ρ.2.2.2.2 := congrArg (fun q => q.2.2) e
  show freeP (obsP M σ.2.1 S σ.2.2.2.2 (-1)) (bxP S σ.2.2.1 σ.2.2.2.1) x y = _
  rw [e1, e2, e3]
  exact fit_eq (sl := ρ.1) H.2.1.1 HS ne hp wq (no_ex H.n.2)
theorem StR.bl (H : StR M σ ρ) {S S' : SH} (HS : SR S S') (ne : S ≠ []) : blS M σ S = rFind ρ S' ∧ bxP S σ.2.2.1 σ.2.2.2.1 = bxR S' ρ.2.2.1 ρ.2.2.2.1 := by
  obtain ⟨e, wq⟩ := H.2.2.1
  have e1 : σ.2.2.1 = ρ.2.2.1 := congrArg Prod.fst e
  have e2 : σ.2.2.2.1 = ρ.2.2.2.1 := congrArg (fun q => q.2.1) e
  have e3 : σ.2.2.2.2 = ρ.2.2.2.2 := congrArg (fun q => q.2.2) e
  unfold blS
  rw [e1, e2, e3, bx_eq HS ne]
  exact ⟨(find_eq (sl := ρ.1) H.2.1.1 H.n.2 HS ne wq).1, rfl⟩
theorem fit_con {S' : SH} {x y sk : Int32} (h : rFit ρ S' x y sk = true) : rCon S' ρ.2.2.1 ρ.2.2.2.1 x y = true := by
  unfold rFit at h
  exact (Bool.and_eq_true_iff.mp h).1
/-- an item more -/
theorem StR.add (H : StR M σ ρ) {q : Nat} {S' : SH} {v : PT} (h : SR (M q) S' ∧ S'.length ≤ 3) (ne : M q ≠ []) (h8 : σ.2.1.length < 8) (hp : Nr v) (hc : rCon S' ρ.2.2.1 ρ.2.2.2.1 v.1 v.2 = true) : StR M (addI σ q v) (rAdd ρ S' v) := by
  have n := H.n
  have np := (con_iff (c := ρ.2.2.2.2) h.1 ne (x := v.1) (y := v.2) hp H.2.2.1.2).2 hc
  refine ⟨H.1, ⟨⟨?_, fun i hi => ?_⟩, ?_⟩, H.2.2.1, fun i hi => ?_⟩
  · show (σ.2.1 ++ [(q, v.1, v.2)]).length = (ρ.2.1 ++ [(S', v.1, v.2)]).length
    rw [List.length_append, List.length_append, n.1]; rfl
  · have hi : i < (σ.2.1 ++ [(q, v.1, v.2)]).length := hi
    rw [List.length_append, List.length_singleton] at hi
    show ItR M ((σ.2.1 ++ [(q, v.1, v.2)]).getD i (0, 0, 0)) ((ρ.2.1 ++ [(S', v.1, v.2)]).getD i dI)
    rw [getD_app, getD_app, ← n.1]
    by_cases c : i < σ.2.1.length
    · rw [if_pos c, if_pos c]; exact H.2.1.1.2 i c
    · rw [if_neg c, if_neg c, if_pos (by omega), if_pos (by omega)]
      exact ⟨h, ne, rfl, np⟩
  · show (ρ.2.1 ++ [(S', v.1, v.2)]).length ≤ 8
    rw [List.length_append, List.length_singleton]; omega
  · have hi : i < (ρ.2.1 ++ [(S', v.1, v.2)]).length := hi
    rw [List.length_append, List.length_singleton] at hi
    show rCon ((ρ.2.1 ++ [(S', v.1, v.2)]).getD i dI).1 ρ.2.2.1 ρ.2.2.2.1 ((ρ.2.1 ++ [(S', v.1, v.2)]).getD i dI).2.1 ((ρ.2.1 ++ [(S', v.1, v.2)]).getD i dI).2.2 = true
    rw [getD_app]
    by_cases c : i < ρ.2.1.length
    · rw [if_pos c]; exact H.2.2.2 i c
    · rw [if_neg c, if_pos (by omega)]; exact hc
theorem q_place (H : Ful M σ vs ρ ps) (x u v : Int32) : (cPlace M σ vs x u v).1 = (rPlace ρ ps x u v).1 ∧ Ful M (cPlace M σ vs x u v).2.1 (cPlace M σ vs x u v).2.2 (rPlace ρ ps x u v).2.1 (rPlace ρ ps x u v).2.2 := by
  have n := H.1.n
  unfold cPlace rPlace
  by_cases c : Slt x ∧ Nea u ∧ Nea v
  · rw [ifC_pos c, ifC_pos c]
    have s := H.1.sl c.1
    have nr := (near_bd c.2.1 c.2.2).2.2
    by_cases e : slM M σ (nx x) = []
    · rw [ifC_neg fun q => q.1 e, ifC_pos (s.1.nil.mp e)]; exact ⟨rfl, H⟩
    · rw [ifC_neg (p := slR ρ x = []) fun q => e (s.1.nil.mpr q)]
      have f := H.1.fitS s.1 e nr
      by_cases d : rFit ρ (slR ρ x) u v (-1000009) = true
      · rw [ifC_pos ⟨e, f.trans d⟩, if_pos d]
        by_cases g : σ.2.1.length < 8
        · rw [if_pos g, if_neg (by omega)]
          exact ⟨by dsimp only; rw [n.1], H.push (H.1.add (v := (u, v)) s e g nr (fit_con d))⟩
        · rw [if_neg g, if_pos (by omega)]; exact ⟨rfl, H⟩
      · rw [ifC_neg fun q => d (f.symm.trans q.2), if_neg d]; exact ⟨rfl, H⟩
  · rw [ifC_neg c, ifC_neg c]; exact ⟨rfl, H⟩
theorem err_eq (H : StR M σ ρ) (x : Int32) : cErr M σ x = rErr ρ x ∧ (cErr M σ x = 0 ↔ 0 ≤ rErr ρ x) ∧ (cErr M σ x = 0 → Slt x ∧ slM M σ (nx x) ≠ [] ∧ σ.2.1.length < 8) := by
  have n := H.n
  have e : cErr M σ x = rErr ρ x := ifC_cong Iff.rfl (fun h => ifC_cong (H.sl h).1.nil (fun _ => rfl) fun _ => by
    by_cases g : σ.2.1.length < 8
    · rw [if_pos g, if_neg (by omega)]
    · rw [if_neg g, if_pos (by omega)]) fun _ => rfl
  refine ⟨e, ?_, ?_⟩
  · rw [← e]
    unfold cErr
    by_cases c : Slt x
    · rw [ifC_pos c]
      by_cases d : slM M σ (nx x) = []
      · rw [ifC_pos d]; decide
      · rw [ifC_neg d]
        split <;> decide
    · rw [ifC_neg c]; decide
  · intro z
    unfold cErr at z
    by_cases c : Slt x
    · rw [ifC_pos c] at z
      by_cases d : slM M σ (nx x) = []
      · rw [ifC_pos d] at z; exact absurd z (by decide)
      · rw [ifC_neg d] at z
        by_cases g : σ.2.1.length < 8
        · exact ⟨c, d, g⟩
        · rw [if_neg g] at z; exact absurd z (by decide)
    · rw [ifC_neg c] at z; exact absurd z (by decide)
theorem find_ok {S' : SH} {q : Nat × Nat} (h : rFind ρ S' = some q) : rFit ρ S' (atB (bxR S' ρ.2.2.1 ρ.2.2.2.1) q).1 (atB (bxR S' ρ.2.2.1 ρ.2.2.2.1) q).2 (-1000009) = true ∧ q ∈ pre (nxB (bxR S' ρ.2.2.1 ρ.2.2.2.1)) (nyB (bxR S' ρ.2.2.1 ρ.2.2.2.1)) 0 := by
  have w : rFB ρ S' q = true := List.find?_some h
  exact ⟨w, List.mem_of_find?_eq_some h⟩
/-- a shape at its bottom-left place -/
theorem q_bl (H : Ful M σ vs ρ ps) {q : Nat} {S' : SH} (h : SR (M q) S' ∧ S'.length ≤ 3) (ne : M q ≠ []) (h8 : σ.2.1.length < 8) : (rFind ρ S' = none → cBl M σ vs q = (-1000009, σ, vs)) ∧ ∀ k, rFind ρ S' = some k → (cBl M σ vs q).1 = Int32.ofNat ρ.2.1.length ∧ Ful M (cBl M σ vs q).2.1 (cBl M σ vs q).2.2 (rAdd ρ S' (atB (bxR S' ρ.2.2.1 ρ.2.2.2.1) k)) (pushR ps ρ) := by
  have n := H.1.n
  obtain ⟨b1, b2⟩ := H.1.bl h.1 ne
  unfold cBl
  rw [b1]
  refine ⟨fun e => by rw [e], fun k e => ?_⟩
  rw [e]
  obtain ⟨f1, f2⟩ := find_ok e
  have np : Np (atB (bxR S' ρ.2.2.1 ρ.2.2.2.1) k) := by
    have b := (box_sm (c := ρ.2.2.2.2) (w := ρ.2.2.1) (hh := ρ.2.2.2.1) h.1 ne H.1.2.2.1.2).2 k
    rw [← bx_eq h.1 ne] at b
    exact b f2
  dsimp only
  refine ⟨by rw [n.1], ?_⟩
  unfold plS
  rw [b2]
  exact H.push (H.1.add h ne h8 np.nr (fit_con f1))
theorem q_placeBL (H : Ful M σ vs ρ ps) (x : Int32) : (cPlaceBL M σ vs x).1 = (rPlaceBL ρ ps x).1 ∧ Ful M (cPlaceBL M σ vs x).2.1 (cPlaceBL M σ vs x).2.2 (rPlaceBL ρ ps x).2.1 (rPlaceBL ρ ps x).2.2 := by
  obtain ⟨e, z, ok⟩ := err_eq H.1 x
  unfold cPlaceBL rPlaceBL
  by_cases c : cErr M σ x = 0
  · rw [if_pos c, if_pos (z.mp c)]
    obtain ⟨o1, o2, o3⟩ := ok c
    obtain ⟨b1, b2⟩ := q_bl H (q := σ.1.getD (nx x) 0) (H.1.sl o1) o2 o3
    cases f : rFind ρ (slR ρ x) with
    | none => rw [b1 f]; exact ⟨rfl, H⟩
    | some k => exact b2 k f
  · rw [if_neg c, if_neg fun q => c (z.mpr q)]; exact ⟨e, H⟩
end PL
