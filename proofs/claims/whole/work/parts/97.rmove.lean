/-! the reference's clearance and moves -/
abbrev rit (σ : RV) (i : Nat) : RI := σ.2.1.getD i dI
def rHit (σ : RV) (c : Int32) (a b : Nat) : Bool := anyP (rit σ a).1 (rit σ b).1 ((rit σ b).2.1 - (rit σ a).2.1) ((rit σ b).2.2 - (rit σ a).2.2) c 0
def rClrB (σ : RV) (c : Int32) : Bool := (List.range σ.2.1.length).all fun a => (List.range a).all fun b => !rHit σ c a b
noncomputable def rClr (σ : RV) (ps : List RV) (c : Int32) : Int32 × RV × List RV := ifC (inP c 0 5) (if rClrB σ c = true then (σ.2.2.2.2, (σ.1, σ.2.1, σ.2.2.1, σ.2.2.2.1, c), pushR ps σ) else (-1000002, σ, ps)) (-1000001, σ, ps)
def rSet (σ : RV) (i : Nat) (v : PT) : RV := (σ.1, σ.2.1.set i ((rit σ i).1, v.1, v.2), σ.2.2)
def psn (σ : RV) (i : Nat) (d : Int32) (t : Nat) : PT := ((rit σ i).2.1 + Int32.ofNat t * dxR d, (rit σ i).2.2 + Int32.ofNat t * dyR d)
def rFitT (σ : RV) (i : Nat) (d : Int32) (t : Nat) : Bool := rFit σ (rit σ i).1 (psn σ i d t).1 (psn σ i d t).2 (Int32.ofNat i)
def SlE (σ : RV) (i : Nat) (d : Int32) (n : Nat) : Prop := n < 100000 ∧ (∀ t, t < n → rFitT σ i d (t + 1) = true) ∧ rFitT σ i d (n + 1) = false
def rCan (σ : RV) : Bool := (List.range σ.2.1.length).any fun i => rFit σ (rit σ i).1 (rit σ i).2.1 ((rit σ i).2.2 - 1) (Int32.ofNat i) || rFit σ (rit σ i).1 ((rit σ i).2.1 - 1) (rit σ i).2.2 (Int32.ofNat i)
noncomputable def rSlideI (σ : RV) (ps : List RV) (i d : Int32) (n : Nat) : Int32 × RV × List RV := ifC (RItm σ i ∧ inP d 0 7) (if rFitT σ (nx i) d 1 = true then (Int32.ofNat n, rSet σ (nx i) (psn σ (nx i) d n), pushR ps σ) else (-1000009, σ, ps)) (-1000001, σ, ps)
section RM
variable {E : EV} {h : AH} {z : Sc} {k : MK} {cs : List Int32} {σ : RV} {ps : List RV} {b : Nat} {S : SH}
theorem RsF.ix {f : Nat → Int32} (P : RsF f σ) {i : Nat} (hi : i < σ.2.1.length) : f (204 + 42 * i) = (rit σ i).2.1 ∧ f (205 + 42 * i) = (rit σ i).2.2 := (P.2.2.2.2 i hi).2
theorem m11_setClearance (H : Mrf h cs σ ps) (c : Int32) : sX11_setClearance E [aP (some 313), aI c] h (Rq cs (rClr σ ps c).2.1 (rClr σ ps c).2.2 h (rClr σ ps c).1) := by
  obtain ⟨z, k, H, P, T⟩ := H
  have hn := P.1.1.2
  refine uX11_setClearance (fun m h' l0 l1 l2 => ∃ a n1 n2, m = (20 - a) * 100 ∧ l0 = some 313 ∧ l1 = c ∧ l2 = Int32.ofNat a ∧ a ≤ σ.2.1.length ∧ inP c 0 5 ∧ MoZ h' (zN z n1 n2) k ∧ Fr 313 314 h h' ∧ ∀ a', a' < a → (List.range a').all (fun b => !rHit σ c a' b) = true) (fun m h' l0 l1 l2 l3 => ∃ a b n1 n2, m = (20 - a) * 100 - 1 - b ∧ l0 = some 313 ∧ l1 = c ∧ l2 = Int32.ofNat a ∧ l3 = Int32.ofNat b ∧ a < σ.2.1.length ∧ b ≤ a ∧ inP c 0 5 ∧ MoZ h' (zN z n1 n2) k ∧ Fr 313 314 h h' ∧ (∀ a', a' < a → (List.range a').all (fun b => !rHit σ c a' b) = true) ∧ (List.range b).all (fun b => !rHit σ c a b) = true) ?_ ?_ ?_
  · unfold PX11_setClearance_0
    refine csI (m11_in c 0 5) ⟨fun c1 => ⟨_, 0, z.1, z.2.1, rfl, rfl, rfl, rfl, Nat.zero_le _, ifC1 rfl c1, H, Fr.refl, fun a ha => absurd ha (by omega)⟩, fun c1 => ?_⟩
    unfold rClr; rw [ifC_neg (ifC0 rfl c1)]
    exact Rq.mk rfl ⟨z, k, H, P, T⟩ Fr.refl
  · rintro m h' l0 l1 l2 ⟨a, n1, n2, rfl, rfl, rfl, rfl, ha, hc, H', f, ih⟩
    unfold PX11_setClearance_14
    refine (rdP_iff H'.1).mpr ⟨_, rfl, H'.ld (i := 3) (by omega) ?_⟩
    rw [P.1.2.2.1]
    refine ⟨fun c1 => ?_, fun c1 => ?_⟩
    · have c1 := (i32_le (by omega) (by omega)).mp c1
      refine cvVq H'.1 (m11_note H' P) fun h4 q4 => ?_
      obtain ⟨pt, n, H4, P4, f4⟩ := q4
      refine (rdP_iff H4.1).mpr ⟨_, rfl, H4.ld (i := 2) (by omega) ((rdP_iff H4.1).mpr ⟨_, rfl, H4.st (i := 2) (by omega) ?_⟩)⟩
      have ok : rClrB σ l1 = true := List.all_eq_true.mpr fun x hx => ih x (by have := List.mem_range.mp hx; omega)
      unfold rClr; rw [ifC_pos hc, if_pos ok]
      have g : ∀ i, sA (k.1.set 2 l1, (kPs k pt n).2) i = if i = 2 then l1 else sA k i := fun i => sA_set (k := kPs k pt n) H4.2.1.2 (by omega)
      obtain ⟨R1, R2, R3, R4, R5⟩ := P4.1
      refine Rq.mk R2.2.2.symm ⟨_, _, H4.set1 2 l1, P4.s ⟨R1, ⟨(g 0).trans R2.1, (g 1).trans R2.2.1, (g 2).trans (if_pos rfl)⟩, (g 3).trans R3, fun j hj => (R4 j hj).same fun i h1 h2 => (g i).trans (if_neg (by omega)), fun i hi => ?_⟩, T⟩ ((f.weak (by omega) (by omega)).trans ((f4.weak (by omega) (by omega)).trans (fr4.weak (by omega) (by omega))))
      obtain ⟨d1, d2, d3⟩ := R5 i hi
      exact ⟨d1.same fun q h1 h2 => (g q).trans (if_neg (by omega)), (g _).trans ((if_neg (by omega)).trans d2), (g _).trans ((if_neg (by omega)).trans d3)⟩
    · have c1 := mt (i32_le (i := σ.2.1.length) (j := a) (by omega) (by omega)).mpr c1
      exact ⟨_, by omega, a, 0, n1, n2, rfl, rfl, rfl, rfl, rfl, by omega, Nat.zero_le _, hc, H', f, ih, rfl⟩
  · rintro m h' l0 l1 l2 l3 ⟨a, b, n1, n2, rfl, rfl, rfl, rfl, rfl, ha, hb, hc, H', f, ih, ib⟩
    unfold PX11_setClearance_26
    refine ⟨fun c1 => ?_, fun c1 => ?_⟩
    · have c1 := (i32_le (by omega) (by omega)).mp c1
      have : b = a := by omega
      subst this
      refine ⟨(20 - (b + 1)) * 100, by omega, b + 1, n1, n2, rfl, rfl, rfl, i32_s _, ha, hc, H', f, fun a' ha' => ?_⟩
      by_cases q : a' = b
      · subst q; exact ib
      · exact ih a' (by omega)
    · have c1 := mt (i32_le (i := a) (j := b) (by omega) (by omega)).mpr c1
      obtain ⟨xa, ya⟩ := P.1.ix ha
      obtain ⟨xb, yb⟩ := P.1.ix (i := b) (by omega)
      refine csI (m11_itemShape a) (csI (m11_itemShape b) (cvI H'.1 (m11_itemX H' (by omega)) (cvI H'.1 (m11_itemX H' (by omega)) (cvI H'.1 (m11_itemY H' (by omega)) (cvI H'.1 (m11_itemY H' (by omega)) ?_)))))
      rw [xa, ya, xb, yb]
      refine cvIq H'.1 (m11_isAny H' (P.1.item ha) (P.1.item (i := b) (by omega)) _ _ _ 0) fun v h12 q => ?_
      obtain ⟨ev, ⟨n1', n2', H12⟩, f12⟩ := q
      refine ⟨fun c7 => ?_, fun c7 => ?_⟩
      · have e : rHit σ l1 a b = false := by
          have := r00 ev c7
          unfold rHit; simpa using this
        refine ⟨(20 - a) * 100 - 1 - (b + 1), by omega, a, b + 1, n1', n2', rfl, rfl, rfl, rfl, i32_s _, ha, by omega, hc, H12, f.trans f12, ih, ?_⟩
        rw [all_succ, ib, e]; rfl
      · have e : rHit σ l1 a b = true := r01 ev c7
        have no : ¬ rClrB σ l1 = true := fun q => by
          have q1 := List.all_eq_true.mp q a (List.mem_range.mpr ha)
          have q2 := List.all_eq_true.mp q1 b (List.mem_range.mpr (by omega))
          rw [e] at q2; exact absurd q2 (by decide)
        unfold rClr; rw [ifC_pos hc, if_neg no]
        exact Rq.mk rfl ⟨_, k, H12, P, T⟩ ((f.trans f12).weak (by omega) (by omega))
theorem rit_set {i j : Nat} {v : PT} (hi : i < σ.2.1.length) : rit (rSet σ i v) j = if j = i then ((rit σ i).1, v.1, v.2) else rit σ j := by
  show (σ.2.1.set i _).getD j dI = _
  rw [getD_set]
  by_cases c : j = i
  · subst c; rw [if_pos ⟨rfl, hi⟩, if_pos rfl]
  · rw [if_neg (by omega), if_neg c]
/-- whether an item fits somewhere does not hang on where it lies -/
theorem rFit_set {i : Nat} {v : PT} (h8 : σ.2.1.length ≤ 8) (hi : i < σ.2.1.length) {T : SH} {x y : Int32} : rFit (rSet σ i v) T x y (Int32.ofNat i) = rFit σ T x y (Int32.ofNat i) := by
  unfold rFit
  have e1 : (rSet σ i v).2.1.length = σ.2.1.length := List.length_set ..
  rw [e1]
  congr 1
  rw [Bool.eq_iff_iff, List.all_eq_true, List.all_eq_true]
  have : ∀ q, q ∈ List.range σ.2.1.length → rOff (rSet σ i v) T x y (Int32.ofNat i) q = rOff σ T x y (Int32.ofNat i) q := fun q hq => by
    have hq := List.mem_range.mp hq
    unfold rOff
    by_cases c : q = i
    · subst c; simp
    · have e := rit_set (σ := σ) (j := q) (v := v) hi
      rw [if_neg c] at e
      unfold rit at e
      rw [e]; rfl
  exact ⟨fun w q hq => (this q hq).symm.trans (w q hq), fun w q hq => (this q hq).trans (w q hq)⟩
theorem RsF.move {f g : Nat → Int32} (P : RsF f σ) {i : Nat} (hi : i < σ.2.1.length) (v : PT) (e : ∀ q, q < 500 → q ≠ 204 + 42 * i → q ≠ 205 + 42 * i → g q = f q) (e1 : g (204 + 42 * i) = v.1) (e2 : g (205 + 42 * i) = v.2) : RsF g (rSet σ i v) := by
  obtain ⟨P1, P2, P3, P4, P5⟩ := P
  have h8 := P1.2
  have el : (rSet σ i v).2.1.length = σ.2.1.length := List.length_set ..
  refine ⟨⟨P1.1, by rw [el]; exact P1.2⟩, ⟨(e 0 (by omega) (by omega) (by omega)).trans P2.1, (e 1 (by omega) (by omega) (by omega)).trans P2.2.1, (e 2 (by omega) (by omega) (by omega)).trans P2.2.2⟩, by rw [el]; exact (e 3 (by omega) (by omega) (by omega)).trans P3, fun j hj => (P4 j hj).same fun q h1 h2 => e q (by omega) (by omega) (by omega), fun j hj => ?_⟩
  rw [el] at hj
  have er := rit_set (j := j) (v := v) hi
  unfold rit at er
  rw [er]
  obtain ⟨d1, d2, d3⟩ := P5 j hj
  by_cases c : j = i
  · subst c
    rw [if_pos rfl]
    exact ⟨d1.same fun q h1 h2 => e q (by omega) (by omega) (by omega), e1, e2⟩
  · rw [if_neg c]
    exact ⟨d1.same fun q h1 h2 => e q (by omega) (by omega) (by omega), (e _ (by omega) (by omega) (by omega)).trans d2, (e _ (by omega) (by omega) (by omega)).trans d3⟩
theorem psn_succ {i : Nat} {d : Int32} {t : Nat} : psn σ i d (t + 1) = ((psn σ i d t).1 + dxR d, (psn σ i d t).2 + dyR d) := by
  unfold psn
  rw [show Int32.ofNat (t + 1) = Int32.ofNat t + 1 from (i32_s t).symm]
  simp only [Int32.add_mul, Int32.one_mul, Int32.add_assoc]
theorem psn_zero {i : Nat} {d : Int32} : psn σ i d 0 = (rit σ i).2 := by
  unfold psn
  rw [show Int32.ofNat 0 = 0 from rfl, Int32.zero_mul, Int32.zero_mul, Int32.add_zero, Int32.add_zero]
theorem rSet_set {i : Nat} {u v : PT} (hi : i < σ.2.1.length) : rSet (rSet σ i u) i v = rSet σ i v := by
  have e := rit_set (σ := σ) (j := i) (v := u) hi
  rw [if_pos rfl] at e
  unfold rSet at e ⊢
  rw [e, List.set_set]
theorem m11_slides (H : MoZ h z k) (P : RsF (sA k) σ) {i : Nat} (hi : i < σ.2.1.length) {d : Int32} {n : Nat} (hE : SlE σ i d n) : sX11_slides E [aP (some 313), aI (Int32.ofNat i), aI d] h (kI fun r h' => r = Int32.ofNat n ∧ (∃ z' s, MoZ h' z' (s, k.2) ∧ RsF (sA (s, k.2)) (rSet σ i (psn σ i d n)) ∧ (∀ q, 500 ≤ q → s.getD q 0 = sA k q)) ∧ Fr 313 315 h h') := by
  have h8 := P.1.2
  obtain ⟨hn, hy, hno⟩ := hE
  refine uX11_slides (fun m h' l0 l1 l2 l3 l4 => ∃ t n1 n2 s, m = 200000 - t ∧ l0 = some 313 ∧ l1 = Int32.ofNat i ∧ l2 = d ∧ l3 = Int32.ofNat t ∧ l4 = Int32.ofNat (204 + 42 * i) ∧ t ≤ n ∧ MoZ h' (zN z n1 n2) (s, k.2) ∧ RsF (sA (s, k.2)) (rSet σ i (psn σ i d t)) ∧ (∀ q, 500 ≤ q → s.getD q 0 = sA k q) ∧ Fr 313 315 h h') ?_ ?_
  · unfold PX11_slides_0
    refine csI (m11_itemShape i) ?_
    rintro _ rfl
    have e40 : Int32.ofNat (164 + 42 * i) + 40 = Int32.ofNat (204 + 42 * i) := by rw [show 204 + 42 * i = (164 + 42 * i) + 40 by omega, Int32.ofNat_add (164 + 42 * i)]; rfl
    rw [e40]
    obtain ⟨xa, ya⟩ := P.ix hi
    refine ⟨_, 0, z.1, z.2.1, k.1, rfl, rfl, rfl, rfl, rfl, rfl, Nat.zero_le _, H, P.move hi _ (fun q _ _ _ => rfl) ?_ ?_, fun _ _ => rfl, Fr.refl⟩
    · rw [psn_zero]; exact xa
    · rw [psn_zero]; exact ya
  · rintro m h' l0 l1 l2 l3 l4 ⟨t, n1, n2, s, rfl, rfl, rfl, rfl, rfl, rfl, ht, H', P', hs, f⟩
    have len : s.length = 580 := H'.2.1.2
    have el : (rSet σ i (psn σ i l2 t)).2.1.length = σ.2.1.length := List.length_set ..
    have hi' : i < (rSet σ i (psn σ i l2 t)).2.1.length := by rw [el]; exact hi
    obtain ⟨xa, ya⟩ := P'.ix hi'
    have er := rit_set (σ := σ) (j := i) (v := psn σ i l2 t) hi
    rw [if_pos rfl] at er
    have B := P'.item hi'
    rw [er] at xa ya
    have B : Blk (s, k.2) (164 + 42 * i) (rit σ i).1 := by
      have e : (rit (rSet σ i (psn σ i l2 t)) i).1 = (rit σ i).1 := by rw [er]
      rw [← e]; exact B
    have e41 : Int32.ofNat (204 + 42 * i) + 1 = Int32.ofNat (205 + 42 * i) := by rw [i32_s]; congr 1; omega
    have ps1 := psn_succ (σ := σ) (i := i) (d := l2) (t := t)
    unfold PX11_slides_11
    refine csI (m11_itemShape i) ((rdP_iff H'.1).mpr ⟨_, rfl, H'.ld (by omega) (csI (m11_dirX l2) ((rdP_iff H'.1).mpr ⟨_, rfl, ?_⟩))⟩)
    rw [e41, xa]
    refine H'.ld (by omega) (csI (m11_dirY l2) ?_)
    rw [ya]
    refine cvIq H'.1 (m11_fits H' P' B _ _ _) fun r h12 q12 => ?_
    obtain ⟨e12, ⟨m1, m2, H12⟩, f12⟩ := q12
    have efit : rFit (rSet σ i (psn σ i l2 t)) (rit σ i).1 ((psn σ i l2 t).1 + dxR l2) ((psn σ i l2 t).2 + dyR l2) (Int32.ofNat i) = rFitT σ i l2 (t + 1) := by
      rw [rFit_set h8 hi]; unfold rFitT; rw [ps1]
    replace e12 := e12.trans (congrArg bI efit)
    refine ⟨fun c => ?_, fun c => ?_⟩
    · have e0 : rFitT σ i l2 (t + 1) = false := bI0.mp (e12.symm.trans c)
      have : t = n := by
        by_cases q : t = n
        · exact q
        · have := hy t (by omega)
          rw [this] at e0; cases e0
      subst this
      exact ⟨_, rfl, rfl, ⟨_, s, H12, P', hs⟩, f.trans (f12.weak (by omega) (by omega))⟩
    · have e1 : rFitT σ i l2 (t + 1) = true := bI_true fun q => c (e12.trans q)
      have tn : t < n := by
        by_cases q : t = n
        · subst q; rw [hno] at e1; cases e1
        · omega
      refine (rdP_iff H12.1).mpr ⟨_, rfl, H12.ld (by omega) (csI (m11_dirX l2) (H12.st (by omega) ?_))⟩
      rw [xa]
      have H17 := H12.set1 (204 + 42 * i) ((psn σ i l2 t).1 + dxR l2)
      have l17 : (s.set (204 + 42 * i) ((psn σ i l2 t).1 + dxR l2)).length = 580 := (List.length_set ..).trans len
      refine (rdP_iff H17.1).mpr ⟨_, rfl, H17.ld (by omega) (csI (m11_dirY l2) (H17.st (by omega) ?_))⟩
      have ey : sA (s.set (204 + 42 * i) ((psn σ i l2 t).1 + dxR l2), k.2) (205 + 42 * i) = (psn σ i l2 t).2 := by
        rw [sA_set (k := (s, k.2)) len (by omega), if_neg (by omega)]; exact ya
      have H22 := H17.set1 (205 + 42 * i) ((psn σ i l2 t).2 + dyR l2)
      have g : ∀ q, sA ((s.set (204 + 42 * i) ((psn σ i l2 t).1 + dxR l2)).set (205 + 42 * i) ((psn σ i l2 t).2 + dyR l2), k.2) q = if q = 205 + 42 * i then (psn σ i l2 t).2 + dyR l2 else if q = 204 + 42 * i then (psn σ i l2 t).1 + dxR l2 else sA (s, k.2) q := fun q => by
        rw [sA_set (k := (_, k.2)) l17 (by omega), sA_set (k := (s, k.2)) len (by omega)]
      have ey' : sA ((s, k.2).1.set (204 + 42 * i) ((psn σ i l2 t).1 + dxR l2), (s, k.2).2) (205 + 42 * i) = (psn σ i l2 t).2 := ey
      rw [ey']
      have pm := P'.move (g := sA ((s.set (204 + 42 * i) ((psn σ i l2 t).1 + dxR l2)).set (205 + 42 * i) ((psn σ i l2 t).2 + dyR l2), k.2)) hi' (psn σ i l2 (t + 1)) (fun q _ h1 h2 => (g q).trans (by rw [if_neg h2, if_neg h1])) ((g _).trans (by rw [if_neg (by omega), if_pos rfl, ps1])) ((g _).trans (by rw [if_pos rfl, ps1]))
      rw [rSet_set hi] at pm
      exact ⟨_, by omega, t + 1, m1, m2, _, rfl, rfl, rfl, rfl, i32_s _, rfl, by omega, H22, pm, fun q hq => ((g q).trans (by rw [if_neg (by omega), if_neg (by omega)]; rfl)).trans (hs q hq), ((f.trans (f12.weak (by omega) (by omega))).trans fr314).trans fr314⟩
end RM
