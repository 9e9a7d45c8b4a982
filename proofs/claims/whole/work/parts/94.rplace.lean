/-! the reference places -/
def rCon (S : SH) (w hh x y : Int32) : Bool := decide (¬ w < x + hgP S 1 0 ∧ ¬ hh < y + hgP S 0 1 ∧ ¬ x < hgP S (-1) 0 ∧ ¬ y < hgP S 0 (-1))
def rOff (σ : RV) (S : SH) (x y sk : Int32) (i : Nat) : Bool := decide (Int32.ofNat i = sk) || !anyP (σ.2.1.getD i dI).1 S (x - (σ.2.1.getD i dI).2.1) (y - (σ.2.1.getD i dI).2.2) σ.2.2.2.2 0
def rFit (σ : RV) (S : SH) (x y sk : Int32) : Bool := rCon S σ.2.2.1 σ.2.2.2.1 x y && (List.range σ.2.1.length).all (rOff σ S x y sk)
theorem all_succ {p : Nat → Bool} {n : Nat} : (List.range (n + 1)).all p = ((List.range n).all p && p n) := by
  rw [List.range_succ, List.all_append, List.all_cons, List.all_nil, Bool.and_true]
theorem all_le {p : Nat → Bool} {j n : Nat} (h : (List.range j).all p = false) (hj : j ≤ n) : (List.range n).all p = false := by
  cases e : (List.range n).all p with
  | false => rfl
  | true =>
    rw [List.all_eq_true] at e
    have : (List.range j).all p = true := List.all_eq_true.mpr fun x hx => e x (List.mem_range.mpr (Nat.lt_of_lt_of_le (List.mem_range.mp hx) hj))
    rw [this] at h; exact h
section RP
variable {E : EV} {h : AH} {z : Sc} {k : MK} {cs : List Int32} {σ : RV} {ps : List RV} {b : Nat} {S : SH}
theorem m11_isContained (H : MoZ h z k) (P : RsF (sA k) σ) (B : Blk k b S) (x y : Int32) : sX11_isContained E [aP (some 313), aI (Int32.ofNat b), aI x, aI y] h (kI fun r h' => r = (if rCon S σ.2.2.1 σ.2.2.2.1 x y = true then 1 else 0) ∧ h' = h) := by
  refine eX11_isContained ?_
  unfold PX11_isContained_0
  have no : ¬ (¬ σ.2.2.1 < x + hgP S 1 0 ∧ ¬ σ.2.2.2.1 < y + hgP S 0 1 ∧ ¬ x < hgP S (-1) 0 ∧ ¬ y < hgP S 0 (-1)) → (0 : Int32) = (if rCon S σ.2.2.1 σ.2.2.2.1 x y = true then 1 else 0) := fun q => by
    unfold rCon; rw [decide_eq_false q]; rfl
  refine cvI H.1 (m11_highest H B 1 0) ((rdP_iff H.1).mpr ⟨_, rfl, H.ld (i := 0) (by omega) ?_⟩)
  rw [P.2.1.1]
  refine ⟨fun c => ⟨_, rfl, no fun q => q.1 c, rfl⟩, fun c1 => ?_⟩
  refine cvI H.1 (m11_highest H B 0 1) ((rdP_iff H.1).mpr ⟨_, rfl, H.ld (i := 1) (by omega) ?_⟩)
  rw [P.2.1.2.1]
  refine ⟨fun c => ⟨_, rfl, no fun q => q.2.1 c, rfl⟩, fun c2 => ?_⟩
  refine cvI H.1 (m11_highest H B (-1) 0) ⟨fun c => ⟨_, rfl, no fun q => q.2.2.1 c, rfl⟩, fun c3 => ?_⟩
  refine cvI H.1 (m11_highest H B 0 (-1)) ⟨fun c => ⟨_, rfl, no fun q => q.2.2.2 c, rfl⟩, fun c4 => ⟨_, rfl, ?_, rfl⟩⟩
  unfold rCon; rw [decide_eq_true ⟨c1, c2, c3, c4⟩]; rfl
theorem m11_fits (H : MoZ h z k) (P : RsF (sA k) σ) (B : Blk k b S) (x y sk : Int32) : sX11_fits E [aP (some 313), aI (Int32.ofNat b), aI x, aI y, aI sk] h (kI fun r h' => r = bI (rFit σ S x y sk) ∧ (∃ n1 n2, MoZ h' (zN z n1 n2) k) ∧ Fr 313 314 h h') := by
  have hn := P.1.2
  refine uX11_fits (fun m h' l0 l1 l2 l3 l4 l5 l6 => ∃ j ok n1 n2, m = 20 - j ∧ l0 = some 313 ∧ l1 = Int32.ofNat b ∧ l2 = x ∧ l3 = y ∧ l4 = sk ∧ l5 = bI ok ∧ l6 = Int32.ofNat j ∧ j ≤ σ.2.1.length ∧ MoZ h' (zN z n1 n2) k ∧ Fr 313 314 h h' ∧ ok = (rCon S σ.2.2.1 σ.2.2.2.1 x y && (List.range j).all (rOff σ S x y sk))) ?_ ?_
  · unfold PX11_fits_0
    refine cvI H.1 (m11_isContained H P B x y) ⟨_, 0, rCon S σ.2.2.1 σ.2.2.2.1 x y, z.1, z.2.1, rfl, rfl, rfl, rfl, rfl, rfl, rfl, rfl, by omega, H, Fr.refl, by simp⟩
  · rintro m h' l0 l1 l2 l3 l4 l5 l6 ⟨j, ok, n1, n2, rfl, rfl, rfl, rfl, rfl, rfl, rfl, rfl, hj, H', f, eo⟩
    unfold PX11_fits_12
    refine (rdP_iff H'.1).mpr ⟨_, rfl, H'.ld (i := 3) (by omega) ?_⟩
    rw [P.2.2.1]
    refine ⟨fun c => ?_, fun c => ⟨fun c5 => ?_, fun c5 => ?_⟩⟩
    · have c := (i32_le (by omega) (by omega)).mp c
      have : j = σ.2.1.length := by omega
      subst this
      exact ⟨bI01, _, rfl, by rw [eo]; rfl, ⟨n1, n2, H'⟩, f⟩
    · have o0 : ok = false := bI0.mp c5
      refine ⟨bI01, _, rfl, ?_, ⟨n1, n2, H'⟩, f⟩
      have : rFit σ S l2 l3 l4 = false := by
        unfold rFit
        rw [o0] at eo
        cases e1 : rCon S σ.2.2.1 σ.2.2.2.1 l2 l3 with
        | false => rfl
        | true => rw [e1, Bool.true_and] at eo; rw [Bool.true_and]; exact all_le eo.symm hj
      rw [this, o0]
    · have o1 : ok = true := bI_true c5
      have c := mt (i32_le (i := σ.2.1.length) (j := j) (by omega) (by omega)).mpr c
      have hjj : j < σ.2.1.length := by omega
      rw [o1] at eo
      have stp : ∀ v : Bool, v = rOff σ S l2 l3 l4 j → v = (rCon S σ.2.2.1 σ.2.2.2.1 l2 l3 && (List.range (j + 1)).all (rOff σ S l2 l3 l4)) := fun v e => by
        rw [all_succ, ← Bool.and_assoc, ← eo, Bool.true_and]; exact e
      refine ⟨fun c6 => ⟨_, by omega, j + 1, true, n1, n2, rfl, rfl, rfl, rfl, rfl, rfl, rfl, i32_s _, hjj, H', f, stp _ (by unfold rOff; rw [decide_eq_true c6, Bool.true_or])⟩, fun c6 => ?_⟩
      have hR := P.item hjj
      have j8 : j < 8 := by omega
      refine csI (m11_itemShape j) (cvI H'.1 (m11_itemX H' j8) (cvI H'.1 (m11_itemY H' j8) ((rdP_iff H'.1).mpr ⟨_, rfl, H'.ld (i := 2) (by omega) ?_⟩)))
      obtain ⟨-, dx, dy⟩ := P.2.2.2.2 j hjj
      rw [dx, dy, P.2.1.2.2]
      refine cvIq H'.1 (m11_isAny H' hR B _ _ _ 0) fun v h12 q => ?_
      obtain ⟨ev, ⟨n1', n2', H12⟩, f12⟩ := q
      refine ⟨fun c7 => ?_, fun c7 => ?_⟩
      · have a := r01 ev c7
        exact ⟨_, by omega, j + 1, false, n1', n2', rfl, rfl, rfl, rfl, rfl, rfl, rfl, i32_s _, hjj, H12, f.trans f12, stp _ (by unfold rOff; rw [decide_eq_false c6, a]; rfl)⟩
      · have a := r00 ev c7
        exact ⟨_, by omega, j + 1, true, n1', n2', rfl, rfl, rfl, rfl, rfl, rfl, rfl, i32_s _, hjj, H12, f.trans f12, stp _ (by unfold rOff; rw [decide_eq_false c6, Bool.not_eq_true _ |>.mp a]; rfl)⟩
end RP
